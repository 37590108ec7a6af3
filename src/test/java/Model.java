import java.util.ArrayList;
import java.util.List;

// The document told a second time, over lists and objects and as near to its words as can be,
// to be compared with NeighborCache. It shares no code with it, and no constant.
final class Model {
    static final class Packet {
        int id;
        int dst;
    }

    static final class Entry {
        int address;
        String state;
        int link;
        int timer;
        int probes;
        List<Packet> queue = new ArrayList<>();
    }

    static final class Own {
        int address;
        String state;
        int timer;
        int sent;
    }

    static final class Router {
        int address;
        int mark;
    }

    private static final List<String> ENTRY_STATES =
        List.of("NONE", "INCOMPLETE", "REACHABLE", "STALE", "DELAY", "PROBE");
    private static final List<String> OWN_STATES = List.of("NONE", "TENTATIVE", "PREFERRED", "DUPLICATE");
    private static final List<String> KINDS = List.of("", "NS_MULTI", "NS_UNI", "NS_DAD", "NA", "DATA");

    private final int cacheSize;
    private final int reachableTime;
    private final int retransTime;
    private final int maxSolicit;
    private final List<Entry> cache = new ArrayList<>();
    private final List<Own> owns = new ArrayList<>();
    private final List<Router> routers = new ArrayList<>();
    private final List<int[]> frames = new ArrayList<>();
    private int packets = 0;
    private int dropped = 0;

    Model(int cacheSize, int reachableTime, int retransTime, int maxSolicit) {
        this.cacheSize = Math.min(16, Math.max(2, cacheSize));
        this.reachableTime = Math.min(60, Math.max(2, reachableTime));
        this.retransTime = Math.min(10, Math.max(1, retransTime));
        this.maxSolicit = Math.min(5, Math.max(1, maxSolicit));
    }

    private static boolean valid(int v) {
        return 1 <= v && v <= 65535;
    }

    private Entry entry(int a) {
        return cache.stream().filter(e -> e.address == a).findFirst().orElse(null);
    }

    private Own own(int a) {
        return owns.stream().filter(o -> o.address == a).findFirst().orElse(null);
    }

    private Router router(int a) {
        return routers.stream().filter(r -> r.address == a).findFirst().orElse(null);
    }

    private void emit(String kind, int target, int link, int packet, int hop) {
        frames.add(new int[] {KINDS.indexOf(kind), target, link, packet, hop});
    }

    private void enterReachable(Entry e) {
        e.state = "REACHABLE";
        e.timer = reachableTime;
        e.probes = 0;
    }

    private void enterStale(Entry e) {
        e.state = "STALE";
        e.timer = 0;
        e.probes = 0;
    }

    private void transmit(Packet p, Entry e) {
        emit("DATA", p.dst, e.link, p.id, e.address);
        if (e.state.equals("STALE")) {
            e.state = "DELAY";
            e.timer = 5;
            e.probes = 0;
        }
    }

    private void flush(Entry e) {
        for (Packet p : e.queue) {
            transmit(p, e);
        }
        e.queue.clear();
    }

    private Entry create(int a) {
        if (cache.size() == cacheSize) {
            Entry old = cache.stream().filter(e -> !e.state.equals("INCOMPLETE")).findFirst().orElse(null);
            if (old == null) {
                return null;
            }
            cache.remove(old);
        }
        Entry e = new Entry();
        e.address = a;
        cache.add(e);
        return e;
    }

    private void fail(Entry e) {
        dropped += e.queue.size();
        cache.remove(e);
        Router r = router(e.address);
        if (r != null) {
            r.mark = 1;
        }
    }

    boolean addAddress(int a) {
        if (!valid(a) || own(a) != null || owns.size() == 8) {
            return false;
        }
        Own o = new Own();
        o.address = a;
        o.state = "TENTATIVE";
        o.sent = 1;
        o.timer = retransTime;
        owns.add(o);
        emit("NS_DAD", a, 0, 0, 0);
        return true;
    }

    boolean addRouter(int r) {
        if (!valid(r) || router(r) != null || routers.size() == 4) {
            return false;
        }
        Router added = new Router();
        added.address = r;
        routers.add(added);
        return true;
    }

    int send(int dst, boolean offLink) {
        if (!valid(dst) || offLink && routers.isEmpty()) {
            return -1;
        }
        int h = dst;
        if (offLink) {
            if (routers.stream().allMatch(r -> r.mark == 1)) {
                routers.forEach(r -> r.mark = 0);
            }
            h = defaultRouter();
        }
        Packet p = new Packet();
        p.id = ++packets;
        p.dst = dst;
        Entry e = entry(h);
        if (e == null) {
            e = create(h);
            if (e == null) {
                dropped += 1;
            } else {
                e.state = "INCOMPLETE";
                e.probes = 1;
                e.timer = retransTime;
                e.queue.add(p);
                emit("NS_MULTI", h, 0, 0, 0);
            }
        } else if (e.state.equals("INCOMPLETE")) {
            if (e.queue.size() == 3) {
                e.queue.remove(0);
                dropped += 1;
            }
            e.queue.add(p);
        } else {
            transmit(p, e);
        }
        return p.id;
    }

    boolean receiveNA(int t, int ll, int flags) {
        if (!valid(t) || ll != 0 && !valid(ll)) {
            return false;
        }
        boolean solicited = flags % 2 != 0;
        boolean override = (flags >> 1) % 2 != 0;
        Own o = own(t);
        Entry e = entry(t);
        if (o != null) {
            if (o.state.equals("TENTATIVE")) {
                o.state = "DUPLICATE";
                o.timer = 0;
            }
        } else if (e != null && e.state.equals("INCOMPLETE")) {
            if (ll != 0) {
                e.link = ll;
                if (solicited) {
                    enterReachable(e);
                } else {
                    enterStale(e);
                }
                flush(e);
            }
        } else if (e != null) {
            boolean d = ll != 0 && ll != e.link;
            if (!override && d) {
                if (e.state.equals("REACHABLE")) {
                    enterStale(e);
                }
            } else {
                if (d) {
                    e.link = ll;
                }
                if (solicited) {
                    enterReachable(e);
                } else if (d) {
                    enterStale(e);
                }
            }
        }
        return true;
    }

    boolean receiveNS(int src, int t, int sl) {
        if (!valid(t) || src != 0 && !valid(src) || sl != 0 && !valid(sl) || src == 0 && sl != 0) {
            return false;
        }
        Own o = own(t);
        if (o == null || o.state.equals("DUPLICATE")) {
            return true;
        }
        if (o.state.equals("TENTATIVE")) {
            if (src == 0) {
                o.state = "DUPLICATE";
                o.timer = 0;
            }
            return true;
        }
        if (src == 0) {
            emit("NA", t, 0, 0, 0);
            return true;
        }
        if (sl != 0) {
            learn(src, sl);
        }
        emit("NA", t, sl, 0, src);
        return true;
    }

    private void learn(int src, int sl) {
        Entry e = entry(src);
        if (e == null) {
            e = create(src);
            if (e != null) {
                e.link = sl;
                enterStale(e);
            }
        } else if (e.state.equals("INCOMPLETE")) {
            e.link = sl;
            enterStale(e);
            flush(e);
        } else if (e.link != sl) {
            e.link = sl;
            enterStale(e);
        }
    }

    boolean confirm(int a) {
        Entry e = entry(a);
        if (e == null || e.state.equals("INCOMPLETE")) {
            return false;
        }
        enterReachable(e);
        return true;
    }

    void tick() {
        for (Entry e : new ArrayList<>(cache)) {
            tickEntry(e);
        }
        for (Own o : owns) {
            if (o.state.equals("TENTATIVE") && --o.timer == 0) {
                if (o.sent < maxSolicit) {
                    emit("NS_DAD", o.address, 0, 0, 0);
                    o.sent += 1;
                    o.timer = retransTime;
                } else {
                    o.state = "PREFERRED";
                }
            }
        }
    }

    private void tickEntry(Entry e) {
        if (e.state.equals("STALE") || --e.timer != 0) {
            return;
        }
        switch (e.state) {
            case "INCOMPLETE":
                if (e.probes < maxSolicit) {
                    emit("NS_MULTI", e.address, 0, 0, 0);
                    e.probes += 1;
                    e.timer = retransTime;
                } else {
                    fail(e);
                }
                break;
            case "REACHABLE":
                enterStale(e);
                break;
            case "DELAY":
                e.state = "PROBE";
                e.probes = 1;
                e.timer = retransTime;
                emit("NS_UNI", e.address, e.link, 0, e.address);
                break;
            default:
                if (e.probes < maxSolicit) {
                    emit("NS_UNI", e.address, e.link, 0, e.address);
                    e.probes += 1;
                    e.timer = retransTime;
                } else {
                    fail(e);
                }
                break;
        }
    }

    int entryInfo(int a, int f) {
        if (f < 0 || f > 4) {
            return -1;
        }
        Entry e = entry(a);
        if (e == null) {
            return 0;
        }
        return new int[] {ENTRY_STATES.indexOf(e.state), e.link, e.queue.size(), e.timer, e.probes}[f];
    }

    int entryAt(int i) {
        return i < 0 || i >= cache.size() ? 0 : cache.get(i).address;
    }

    int queuedPacket(int a, int k) {
        Entry e = entry(a);
        return e == null || k < 0 || k >= e.queue.size() ? 0 : e.queue.get(k).id;
    }

    int addressInfo(int a, int f) {
        if (f < 0 || f > 2) {
            return -1;
        }
        Own o = own(a);
        return o == null ? 0 : new int[] {OWN_STATES.indexOf(o.state), o.timer, o.sent}[f];
    }

    int routerInfo(int i, int f) {
        if (i < 0 || i >= routers.size() || f < 0 || f > 1) {
            return -1;
        }
        return f == 0 ? routers.get(i).address : routers.get(i).mark;
    }

    int defaultRouter() {
        if (routers.isEmpty()) {
            return 0;
        }
        return routers.stream().filter(r -> r.mark == 0).findFirst().orElse(routers.get(0)).address;
    }

    int frameCount() {
        return frames.size();
    }

    int frameField(int n, int f) {
        if (n < 0 || n >= frames.size() || n < frames.size() - 64 || f < 0 || f > 4) {
            return -1;
        }
        return frames.get(n)[f];
    }

    int dropped() {
        return dropped;
    }
}
