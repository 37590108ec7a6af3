// Promise 5: receiveNA, and the terms flush, enter REACHABLE and enter STALE.
public final class Promise05ReceiveNATest {
    private static final int SOLICITED = NeighborCache.FLAG_SOLICITED;
    private static final int OVERRIDE = NeighborCache.FLAG_OVERRIDE;
    private static final Due due = new Due();

    public static void main(String[] args) {
        refusesTargetNotValid();
        refusesLinkOutside();
        acceptsTheEndsOfTheRanges();
        endsTentativeOwn();
        leavesOtherOwnStates();
        looksAtOwnBeforeTheCache();
        ignoresUnknown();
        keepsIncompleteWithoutLink();
        resolvesIncomplete();
        flushesOldestFirst();
        flushesToTheirDestinations();
        otherLinkWithoutOverride();
        otherLinkWithOverride();
        sameOrNoLink();
        ignoresOtherBits();
        leavesTheRestAlone();
        due.end();
    }

    // "If t is not valid [...] it answers false and nothing changes."
    private static void refusesTargetNotValid() {
        for (int t : Stage.NOT_VALID) {
            Unchanged.everywhere(due, "receiveNA(" + t + ", 1, 3)", false, x -> x.receiveNA(t, 1, 3));
            Unchanged.everywhere(due, "receiveNA(" + t + ", 0, 1)", false, x -> x.receiveNA(t, 0, 1));
        }
    }

    // "or ll is outside 0..65535": for an entry in each state, an own address in each, and a stranger
    private static void refusesLinkOutside() {
        for (int ll : Stage.OUTSIDE) {
            for (int t : new int[] {11, 12, 13, 14, 15, 21, 22, 23, 31, Stage.STRANGER}) {
                Unchanged.on(Stage.BUSY, due, "receiveNA(" + t + ", " + ll + ", 3)", false,
                    x -> x.receiveNA(t, ll, 3));
                Unchanged.on(Stage.FULL, due, "receiveNA(" + t + ", " + ll + ", 0)", false,
                    x -> x.receiveNA(t, ll, 0));
            }
        }
    }

    private static void acceptsTheEndsOfTheRanges() {
        for (int t : new int[] {1, 65535}) {
            for (int ll : new int[] {1, 65535}) {
                NeighborCache x = Make.plain();
                x.send(t, false);
                due.yes("receiveNA(" + t + ", 0, 1)", x.receiveNA(t, 0, SOLICITED));
                due.entry(x, t, NeighborCache.INCOMPLETE, 0, 1, 2, 1);
                due.yes("receiveNA(" + t + ", " + ll + ", 1)", x.receiveNA(t, ll, SOLICITED));
                due.entry(x, t, NeighborCache.REACHABLE, ll, 0, 10, 0);
                due.frame(x, 1, NeighborCache.DATA, t, ll, 1, t);
            }
        }
    }

    // "if TENTATIVE it becomes DUPLICATE with timer 0", whatever the link and the flags
    private static void endsTentativeOwn() {
        for (int ll : new int[] {0, 1, 65535}) {
            for (int flags = 0; flags < 4; flags++) {
                NeighborCache x = Make.plain();
                x.addAddress(6);
                Make.ticks(x, 3);
                due.own(x, 6, NeighborCache.TENTATIVE, 1, 2);
                due.yes("receiveNA(6, " + ll + ", " + flags + ")", x.receiveNA(6, ll, flags));
                due.own(x, 6, NeighborCache.DUPLICATE, 0, 2);
            }
        }
        // the last tick before it would be PREFERRED
        NeighborCache x = Make.plain();
        x.addAddress(6);
        Make.ticks(x, 5);
        due.own(x, 6, NeighborCache.TENTATIVE, 1, 3);
        due.yes("receiveNA(6, 0, 0)", x.receiveNA(6, 0, 0));
        due.own(x, 6, NeighborCache.DUPLICATE, 0, 3);
        x.tick();
        due.own(x, 6, NeighborCache.DUPLICATE, 0, 3);
    }

    // "in other own states nothing changes"
    private static void leavesOtherOwnStates() {
        for (int t : new int[] {Stage.OWN[NeighborCache.PREFERRED], Stage.OWN[NeighborCache.DUPLICATE]}) {
            for (int flags = 0; flags < 4; flags++) {
                int given = flags;
                String call = "receiveNA(" + t + ", 90, " + flags + ")";
                Unchanged.on(Stage.BUSY, due, call, true, x -> x.receiveNA(t, 90, given));
                Unchanged.on(Stage.FULL, due, call, true, x -> x.receiveNA(t, 90, given));
            }
        }
    }

    // "Stop (the cache is not looked at)."
    private static void looksAtOwnBeforeTheCache() {
        NeighborCache x = Make.plain();
        Make.preferred(x, 4);
        x.addAddress(5);
        x.send(5, false);
        x.send(4, false);
        String cache = View.cache(x);
        due.yes("receiveNA(5, 50, 3)", x.receiveNA(5, 50, SOLICITED | OVERRIDE));
        due.own(x, 5, NeighborCache.DUPLICATE, 0, 1);
        due.yes("receiveNA on a DUPLICATE one", x.receiveNA(5, 50, SOLICITED));
        due.yes("receiveNA on a PREFERRED one", x.receiveNA(4, 50, SOLICITED));
        due.same("receiveNA on an own address", View.cache(x), cache);
    }

    // "No entry for t: nothing changes."
    private static void ignoresUnknown() {
        for (int t : new int[] {1, Stage.STRANGER, Stage.FIRST_ROUTER, 65535}) {
            for (int ll : new int[] {0, 1, 120, 65535}) {
                Unchanged.everywhere(due, "receiveNA(" + t + ", " + ll + ", 3)", true,
                    x -> x.receiveNA(t, ll, SOLICITED | OVERRIDE));
            }
        }
    }

    // "if ll == 0, nothing changes"
    private static void keepsIncompleteWithoutLink() {
        for (int flags = 0; flags < 4; flags++) {
            int given = flags;
            Unchanged.on(Stage.BUSY, due, "receiveNA(11, 0, " + flags + ")", true,
                x -> x.receiveNA(11, 0, given));
            Unchanged.on(Stage.FULL, due, "receiveNA(34, 0, " + flags + ")", true,
                x -> x.receiveNA(34, 0, given));
        }
    }

    // "E.link = ll; if SOLICITED is set, enter REACHABLE, else enter STALE; then flush E"
    private static void resolvesIncomplete() {
        for (int flags = 0; flags < 4; flags++) {
            NeighborCache x = Make.plain();
            x.send(9, false);
            x.tick();
            due.yes("receiveNA(9, 90, " + flags + ")", x.receiveNA(9, 90, flags));
            if ((flags & SOLICITED) != 0) {
                due.entry(x, 9, NeighborCache.REACHABLE, 90, 0, 10, 0);
            } else {
                // the flush turns STALE into DELAY
                due.entry(x, 9, NeighborCache.DELAY, 90, 0, 5, 0);
            }
            due.is("frameCount()", x.frameCount(), 2);
            due.frame(x, 1, NeighborCache.DATA, 9, 90, 1, 9);
            due.is("dropped()", x.dropped(), 0);
        }
    }

    // "transmit on E each queued packet, oldest first; the queue becomes empty", for every length
    private static void flushesOldestFirst() {
        for (int sent = 1; sent <= 5; sent++) {
            for (int flags = 0; flags < 2; flags++) {
                NeighborCache x = Make.plain();
                for (int i = 0; i < sent; i++) {
                    x.send(9, false);
                }
                int waiting = Math.min(sent, 3);
                due.yes("receiveNA(9, 90, " + flags + ")", x.receiveNA(9, 90, flags));
                due.is("frameCount()", x.frameCount(), 1 + waiting);
                for (int i = 0; i < waiting; i++) {
                    due.frame(x, 1 + i, NeighborCache.DATA, 9, 90, sent - waiting + 1 + i, 9);
                }
                due.queue(x, 9);
                due.is("dropped()", x.dropped(), sent - waiting);
            }
        }
    }

    private static void flushesToTheirDestinations() {
        NeighborCache x = Make.plain();
        x.addRouter(9);
        x.send(9, false);
        x.send(31, true);
        x.send(32, true);
        x.send(33, true);
        due.yes("receiveNA(9, 90, 0)", x.receiveNA(9, 90, 0));
        due.is("frameCount()", x.frameCount(), 4);
        due.frame(x, 1, NeighborCache.DATA, 31, 90, 2, 9);
        due.frame(x, 2, NeighborCache.DATA, 32, 90, 3, 9);
        due.frame(x, 3, NeighborCache.DATA, 33, 90, 4, 9);
        due.entry(x, 9, NeighborCache.DELAY, 90, 0, 5, 0);
    }

    // An object whose entry for 9 has the given state and link 90, a tick old where it has a timer.
    private static NeighborCache inState(int state) {
        NeighborCache x = Make.plain();
        x.addRouter(9);
        Make.inState(x, state, 9, 90);
        x.tick();
        due.is("state to start from", x.entryInfo(9, NeighborCache.INFO_STATE), state);
        return x;
    }

    // "If OVERRIDE is clear and d holds: if E is REACHABLE, enter STALE (link unchanged); otherwise
    // nothing changes."
    private static void otherLinkWithoutOverride() {
        for (int flags : new int[] {0, SOLICITED}) {
            NeighborCache reachable = inState(NeighborCache.REACHABLE);
            due.yes("receiveNA(9, 91, " + flags + ")", reachable.receiveNA(9, 91, flags));
            due.entry(reachable, 9, NeighborCache.STALE, 90, 0, 0, 0);
            for (int state = NeighborCache.STALE; state <= NeighborCache.PROBE; state++) {
                int start = state;
                Unchanged.by(due, "receiveNA(9, 91, " + flags + ") in " + state, true, () -> inState(start),
                    x -> x.receiveNA(9, 91, flags));
            }
        }
    }

    // "if d, then E.link = ll; then if SOLICITED is set, enter REACHABLE; else if d, enter STALE"
    private static void otherLinkWithOverride() {
        for (int state = NeighborCache.REACHABLE; state <= NeighborCache.PROBE; state++) {
            for (int link : new int[] {1, 91, 65535}) {
                NeighborCache x = inState(state);
                String frames = View.frames(x);
                due.yes("receiveNA(9, " + link + ", 2) in " + state, x.receiveNA(9, link, OVERRIDE));
                due.entry(x, 9, NeighborCache.STALE, link, 0, 0, 0);
                due.same("receiveNA", View.frames(x), frames);

                x = inState(state);
                due.yes("receiveNA(9, " + link + ", 3) in " + state, x.receiveNA(9, link, OVERRIDE | SOLICITED));
                due.entry(x, 9, NeighborCache.REACHABLE, link, 0, 10, 0);
                due.same("receiveNA", View.frames(x), frames);
            }
        }
    }

    // "let d = (ll != 0 and ll != E.link)"; "else nothing changes"
    private static void sameOrNoLink() {
        for (int state = NeighborCache.REACHABLE; state <= NeighborCache.PROBE; state++) {
            int start = state;
            for (int link : new int[] {0, 90}) {
                for (int flags : new int[] {0, OVERRIDE}) {
                    String call = "receiveNA(9, " + link + ", " + flags + ") in " + state;
                    Unchanged.by(due, call, true, () -> inState(start), x -> x.receiveNA(9, link, flags));
                    NeighborCache x = inState(state);
                    due.yes(call + " solicited", x.receiveNA(9, link, flags | SOLICITED));
                    due.entry(x, 9, NeighborCache.REACHABLE, 90, 0, 10, 0);
                }
            }
        }
    }

    // "Only the bits FLAG_SOLICITED and FLAG_OVERRIDE of flags count; other bits are ignored."
    private static void ignoresOtherBits() {
        for (int bit = 2; bit < 32; bit++) {
            for (int flags = 0; flags < 4; flags++) {
                for (int state = NeighborCache.REACHABLE; state <= NeighborCache.PROBE; state++) {
                    sameWithOtherBits(inState(state), inState(state), flags, 1 << bit);
                }
                NeighborCache x = Make.plain();
                NeighborCache twin = Make.plain();
                x.send(9, false);
                twin.send(9, false);
                sameWithOtherBits(x, twin, flags, 1 << bit);
            }
        }
        NeighborCache x = Make.plain();
        x.send(9, false);
        due.yes("receiveNA(9, 90, ~1)", x.receiveNA(9, 90, ~SOLICITED));
        due.entry(x, 9, NeighborCache.DELAY, 90, 0, 5, 0);
        due.yes("receiveNA(9, 91, ~3)", x.receiveNA(9, 91, ~(SOLICITED | OVERRIDE)));
        due.entry(x, 9, NeighborCache.DELAY, 90, 0, 5, 0);
        due.yes("receiveNA(9, 92, -1)", x.receiveNA(9, 92, -1));
        due.entry(x, 9, NeighborCache.REACHABLE, 92, 0, 10, 0);
    }

    private static void sameWithOtherBits(NeighborCache x, NeighborCache twin, int flags, int others) {
        String call = "receiveNA(9, 91, " + (flags | others) + ")";
        due.yes(call, x.receiveNA(9, 91, flags | others));
        twin.receiveNA(9, 91, flags);
        due.same(call, View.cache(x) + View.frames(x), View.cache(twin) + View.frames(twin));
    }

    // "No entry is created or deleted, the router list is not changed": even for a marked router
    private static void leavesTheRestAlone() {
        for (Stage stage : Stage.values()) {
            for (int i = 0; i < 16 && stage.make().entryAt(i) != 0; i++) {
                NeighborCache x = stage.make();
                NeighborCache twin = stage.make();
                x.receiveNA(x.entryAt(i), 91, SOLICITED | OVERRIDE);
                for (int k = 0; k < 17; k++) {
                    due.is("entryAt(" + k + ")", x.entryAt(k), twin.entryAt(k));
                }
                due.same("receiveNA", View.routers(x), View.routers(twin));
                due.same("receiveNA", View.own(x), View.own(twin));
                due.is("dropped()", x.dropped(), twin.dropped());
            }
        }
        NeighborCache x = new NeighborCache(4, 10, 1, 1);
        x.addRouter(7);
        x.send(7, false);
        x.tick();
        x.send(7, false);
        due.yes("receiveNA of a marked router", x.receiveNA(7, 70, SOLICITED));
        due.marks(x, 1);
    }
}
