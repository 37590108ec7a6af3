// Counts and prints the answers that are not the ones that are due.
final class Due {
    private int wrong = 0;

    void is(String call, long got, long want) {
        if (got != want) {
            wrong++;
            System.out.println(call + " answered " + got + ", due is " + want);
        }
    }

    void yes(String call, boolean got) {
        is(call, got ? 1 : 0, 1);
    }

    void no(String call, boolean got) {
        is(call, got ? 1 : 0, 0);
    }

    void answer(String call, Object got, Object want) {
        if (!got.equals(want)) {
            wrong++;
            System.out.println(call + " answered " + got + ", due is " + want);
        }
    }

    // Views come from View.
    void same(String call, String got, String want) {
        if (!got.equals(want)) {
            wrong++;
            System.out.println(call + " left\n" + got + "due is\n" + want);
        }
    }

    void frame(NeighborCache x, int n, int kind, int target, int link, int packet, int hop) {
        String frame = "frame " + n;
        is(frame + " kind", x.frameField(n, NeighborCache.FIELD_KIND), kind);
        is(frame + " target", x.frameField(n, NeighborCache.FIELD_TARGET), target);
        is(frame + " link", x.frameField(n, NeighborCache.FIELD_LINK), link);
        is(frame + " packet", x.frameField(n, NeighborCache.FIELD_PACKET), packet);
        is(frame + " hop", x.frameField(n, NeighborCache.FIELD_HOP), hop);
    }

    void entry(NeighborCache x, int a, int state, int link, int queued, int timer, int probes) {
        String entry = "entry " + a;
        is(entry + " state", x.entryInfo(a, NeighborCache.INFO_STATE), state);
        is(entry + " link", x.entryInfo(a, NeighborCache.INFO_LINK), link);
        is(entry + " queued", x.entryInfo(a, NeighborCache.INFO_QUEUED), queued);
        is(entry + " timer", x.entryInfo(a, NeighborCache.INFO_TIMER), timer);
        is(entry + " probes", x.entryInfo(a, NeighborCache.INFO_PROBES), probes);
    }

    // The addresses of the whole cache in age order.
    void cache(NeighborCache x, int... addresses) {
        for (int i = 0; i < addresses.length; i++) {
            is("entryAt(" + i + ")", x.entryAt(i), addresses[i]);
        }
        is("entryAt past the end", x.entryAt(addresses.length), 0);
    }

    // The whole queue of the entry for a, oldest first.
    void queue(NeighborCache x, int a, int... packets) {
        is("queued of " + a, x.entryInfo(a, NeighborCache.INFO_QUEUED), packets.length);
        for (int k = 0; k < packets.length; k++) {
            is("queuedPacket(" + a + ", " + k + ")", x.queuedPacket(a, k), packets[k]);
        }
        is("queuedPacket past the end", x.queuedPacket(a, packets.length), 0);
    }

    void own(NeighborCache x, int a, int state, int timer, int sent) {
        String own = "own " + a;
        is(own + " state", x.addressInfo(a, NeighborCache.ADDR_STATE), state);
        is(own + " timer", x.addressInfo(a, NeighborCache.ADDR_TIMER), timer);
        is(own + " sent", x.addressInfo(a, NeighborCache.ADDR_SENT), sent);
    }

    // The marks of the whole router list, in list order.
    void marks(NeighborCache x, int... marks) {
        for (int i = 0; i < marks.length; i++) {
            is("mark of router " + i, x.routerInfo(i, NeighborCache.ROUTER_MARK), marks[i]);
        }
        is("mark past the end", x.routerInfo(marks.length, NeighborCache.ROUTER_MARK), -1);
    }

    boolean allRight() {
        return wrong == 0;
    }

    void end() {
        System.out.println(wrong == 0 ? "all answers are as due" : wrong + " answers are not as due");
        if (wrong != 0) {
            System.exit(1);
        }
    }
}
