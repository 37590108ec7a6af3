// What can be read from an object, as a text, to tell whether a call changed it.
final class View {
    static final String EMPTY = " default 0\n dropped 0\n frames 0\n";

    private View() {
    }

    static String of(NeighborCache x) {
        return cache(x) + own(x) + routers(x) + " dropped " + x.dropped() + '\n' + frames(x);
    }

    static String cache(NeighborCache x) {
        StringBuilder text = new StringBuilder();
        for (int i = 0; x.entryAt(i) != 0; i++) {
            text.append(" entry ").append(x.entryAt(i)).append(':');
            for (int f = 0; f < 5; f++) {
                text.append(' ').append(x.entryInfo(x.entryAt(i), f));
            }
            for (int k = 0; k < x.entryInfo(x.entryAt(i), NeighborCache.INFO_QUEUED); k++) {
                text.append(" p").append(x.queuedPacket(x.entryAt(i), k));
            }
            text.append('\n');
        }
        return text.toString();
    }

    static String own(NeighborCache x) {
        StringBuilder text = new StringBuilder();
        for (int a = 1; a <= 65535; a++) {
            if (x.addressInfo(a, NeighborCache.ADDR_STATE) != NeighborCache.NONE) {
                text.append(" own ").append(a).append(':');
                for (int f = 0; f < 3; f++) {
                    text.append(' ').append(x.addressInfo(a, f));
                }
                text.append('\n');
            }
        }
        return text.toString();
    }

    static String routers(NeighborCache x) {
        StringBuilder text = new StringBuilder();
        for (int i = 0; x.routerInfo(i, NeighborCache.ROUTER_ADDR) != NeighborCache.REFUSED; i++) {
            text.append(" router ").append(x.routerInfo(i, NeighborCache.ROUTER_ADDR));
            text.append(" mark ").append(x.routerInfo(i, NeighborCache.ROUTER_MARK)).append('\n');
        }
        return text.append(" default ").append(x.defaultRouter()).append('\n').toString();
    }

    static String frames(NeighborCache x) {
        StringBuilder text = new StringBuilder(" frames " + x.frameCount() + '\n');
        for (int n = Math.max(0, x.frameCount() - 64); n < x.frameCount(); n++) {
            text.append(" frame ").append(n).append(':');
            for (int f = 0; f < 5; f++) {
                text.append(' ').append(x.frameField(n, f));
            }
            text.append('\n');
        }
        return text.toString();
    }
}
