// The IPv6 neighbour cache of one host on one link. README.md tells how to use it; the
// document DOC.md says, as numbered promises, what each method does.
public final class NeighborCache {
    public static final int REFUSED = -1;
    public static final int NONE = 0;
    public static final int INCOMPLETE = 1;
    public static final int REACHABLE = 2;
    public static final int STALE = 3;
    public static final int DELAY = 4;
    public static final int PROBE = 5;
    public static final int DELAY_TIME = 5;
    public static final int QUEUE_MAX = 3;
    public static final int OWN_MAX = 8;
    public static final int ROUTER_MAX = 4;
    public static final int FRAME_KEEP = 64;
    public static final int TENTATIVE = 1;
    public static final int PREFERRED = 2;
    public static final int DUPLICATE = 3;
    public static final int NS_MULTI = 1;
    public static final int NS_UNI = 2;
    public static final int NS_DAD = 3;
    public static final int NA = 4;
    public static final int DATA = 5;
    public static final int FIELD_KIND = 0;
    public static final int FIELD_TARGET = 1;
    public static final int FIELD_LINK = 2;
    public static final int FIELD_PACKET = 3;
    public static final int FIELD_HOP = 4;
    public static final int FLAG_SOLICITED = 1;
    public static final int FLAG_OVERRIDE = 2;
    public static final int INFO_STATE = 0;
    public static final int INFO_LINK = 1;
    public static final int INFO_QUEUED = 2;
    public static final int INFO_TIMER = 3;
    public static final int INFO_PROBES = 4;
    public static final int ADDR_STATE = 0;
    public static final int ADDR_TIMER = 1;
    public static final int ADDR_SENT = 2;
    public static final int ROUTER_ADDR = 0;
    public static final int ROUTER_MARK = 1;

    private static final int ABSENT = -1;
    private static final int ADDRESS_MAX = 65535;
    private static final int CACHE_MIN = 2;
    private static final int CACHE_MAX = 16;
    private static final int REACHABLE_TIME_MIN = 2;
    private static final int REACHABLE_TIME_MAX = 60;
    private static final int RETRANS_TIME_MIN = 1;
    private static final int RETRANS_TIME_MAX = 10;
    private static final int SOLICIT_MIN = 1;
    private static final int SOLICIT_MAX = 5;
    private static final int QUEUE_CELLS = CACHE_MAX * QUEUE_MAX;
    // FRAME_KEEP is a power of two, so this mask gives a slot in range for every
    // frame number, even one that has wrapped below zero.
    private static final int FRAME_MASK = FRAME_KEEP - 1;

    private final int cacheSize;
    private final int reachableTime;
    private final int retransTime;
    private final int maxSolicit;

    // The cache: position in these arrays is age order, 0 the oldest.
    private final int[] entryAddress = new int[CACHE_MAX];
    private final int[] entryState = new int[CACHE_MAX];
    private final int[] entryLink = new int[CACHE_MAX];
    private final int[] entryTimer = new int[CACHE_MAX];
    private final int[] entryProbes = new int[CACHE_MAX];
    private final int[] entryQueued = new int[CACHE_MAX];
    // Entry e owns the cells e * QUEUE_MAX and following; its oldest packet comes first.
    private final int[] queueId = new int[QUEUE_CELLS];
    private final int[] queueDestination = new int[QUEUE_CELLS];
    private int entryCount = 0;

    private final int[] ownAddress = new int[OWN_MAX];
    private final int[] ownState = new int[OWN_MAX];
    private final int[] ownTimer = new int[OWN_MAX];
    private final int[] ownSent = new int[OWN_MAX];
    private int ownCount = 0;

    private final int[] routerAddress = new int[ROUTER_MAX];
    private final int[] routerMark = new int[ROUTER_MAX];
    private int routerCount = 0;

    private final int[] frameKind = new int[FRAME_KEEP];
    private final int[] frameTarget = new int[FRAME_KEEP];
    private final int[] frameLink = new int[FRAME_KEEP];
    private final int[] framePacket = new int[FRAME_KEEP];
    private final int[] frameHop = new int[FRAME_KEEP];
    private int framesEmitted = 0;

    private int lastPacketId = 0;
    private int droppedPackets = 0;

    public NeighborCache(int cacheSize, int reachableTime, int retransTime, int maxSolicit) {
        this.cacheSize = clamp(cacheSize, CACHE_MIN, CACHE_MAX);
        this.reachableTime = clamp(reachableTime, REACHABLE_TIME_MIN, REACHABLE_TIME_MAX);
        this.retransTime = clamp(retransTime, RETRANS_TIME_MIN, RETRANS_TIME_MAX);
        this.maxSolicit = clamp(maxSolicit, SOLICIT_MIN, SOLICIT_MAX);
    }

    public boolean addAddress(int a) {
        if (!isValid(a) || findOwn(a) != ABSENT || ownCount >= OWN_MAX) {
            return false;
        }
        ownAddress[ownCount] = a;
        ownState[ownCount] = TENTATIVE;
        ownTimer[ownCount] = retransTime;
        ownSent[ownCount] = 1;
        ownCount++;
        emit(NS_DAD, a, 0, 0, 0);
        return true;
    }

    public boolean addRouter(int r) {
        if (!isValid(r) || findRouter(r) != ABSENT || routerCount >= ROUTER_MAX) {
            return false;
        }
        routerAddress[routerCount] = r;
        routerMark[routerCount] = 0;
        routerCount++;
        return true;
    }

    public int send(int dst, boolean offLink) {
        if (!isValid(dst)) {
            return REFUSED;
        }
        if (offLink && routerCount == 0) {
            return REFUSED;
        }
        int hop = dst;
        if (offLink) {
            clearMarksIfAllMarked();
            hop = selectedRouter();
        }
        lastPacketId++;
        int packet = lastPacketId;
        int e = findEntry(hop);
        if (e == ABSENT) {
            startResolution(hop, packet, dst);
        } else if (entryState[e] == INCOMPLETE) {
            enqueue(e, packet, dst);
        } else {
            transmit(e, packet, dst);
        }
        return packet;
    }

    public boolean receiveNA(int t, int ll, int flags) {
        if (!isValid(t) || !isValidOrZero(ll)) {
            return false;
        }
        int own = findOwn(t);
        if (own != ABSENT) {
            becomeDuplicateIfTentative(own);
            return true;
        }
        int e = findEntry(t);
        if (e == ABSENT) {
            return true;
        }
        boolean solicited = (flags & FLAG_SOLICITED) != 0;
        boolean override = (flags & FLAG_OVERRIDE) != 0;
        if (entryState[e] == INCOMPLETE) {
            resolveByAdvertisement(e, ll, solicited);
        } else {
            updateByAdvertisement(e, ll, solicited, override);
        }
        return true;
    }

    public boolean receiveNS(int src, int t, int sl) {
        if (!isValid(t) || !isValidOrZero(src) || !isValidOrZero(sl)) {
            return false;
        }
        if (src == 0 && sl != 0) {
            return false;
        }
        int own = findOwn(t);
        if (own == ABSENT) {
            return true;
        }
        if (ownState[own] == PREFERRED) {
            // An unspecified source never gets here with a link, so sl alone decides.
            if (sl != 0) {
                learnSource(src, sl);
            }
            emit(NA, t, sl, 0, src);
        } else if (src == 0) {
            becomeDuplicateIfTentative(own);
        }
        return true;
    }

    public boolean confirm(int a) {
        int e = findEntry(a);
        if (e == ABSENT || entryState[e] == INCOMPLETE) {
            return false;
        }
        enterReachable(e);
        return true;
    }

    public void tick() {
        int present = entryCount;
        int e = 0;
        for (int handled = 0; handled < present; handled++) {
            boolean kept = ageEntry(e);
            // After a deletion the next entry has moved into position e.
            if (kept) {
                e++;
            }
        }
        for (int own = 0; own < ownCount; own++) {
            if (ownState[own] == TENTATIVE) {
                ageTentative(own);
            }
        }
    }

    public int entryInfo(int a, int f) {
        if (f < INFO_STATE || f > INFO_PROBES) {
            return REFUSED;
        }
        int e = findEntry(a);
        if (e == ABSENT) {
            return f == INFO_STATE ? NONE : 0;
        }
        switch (f) {
            case INFO_STATE:
                return entryState[e];
            case INFO_LINK:
                return entryLink[e];
            case INFO_QUEUED:
                return entryQueued[e];
            case INFO_TIMER:
                return entryTimer[e];
            default:
                return entryProbes[e];
        }
    }

    public int entryAt(int i) {
        if (i < 0 || i >= entryCount) {
            return 0;
        }
        return entryAddress[i];
    }

    public int queuedPacket(int a, int k) {
        int e = findEntry(a);
        if (e == ABSENT || k < 0 || k >= entryQueued[e]) {
            return 0;
        }
        return queueId[e * QUEUE_MAX + k];
    }

    public int addressInfo(int a, int f) {
        if (f < ADDR_STATE || f > ADDR_SENT) {
            return REFUSED;
        }
        int own = findOwn(a);
        if (own == ABSENT) {
            return f == ADDR_STATE ? NONE : 0;
        }
        switch (f) {
            case ADDR_STATE:
                return ownState[own];
            case ADDR_TIMER:
                return ownTimer[own];
            default:
                return ownSent[own];
        }
    }

    public int routerInfo(int i, int f) {
        if (i < 0 || i >= routerCount) {
            return REFUSED;
        }
        switch (f) {
            case ROUTER_ADDR:
                return routerAddress[i];
            case ROUTER_MARK:
                return routerMark[i];
            default:
                return REFUSED;
        }
    }

    public int defaultRouter() {
        return selectedRouter();
    }

    public int frameCount() {
        return framesEmitted;
    }

    public int frameField(int n, int f) {
        if (n < 0 || n >= framesEmitted || n < framesEmitted - FRAME_KEEP) {
            return REFUSED;
        }
        int slot = n & FRAME_MASK;
        switch (f) {
            case FIELD_KIND:
                return frameKind[slot];
            case FIELD_TARGET:
                return frameTarget[slot];
            case FIELD_LINK:
                return frameLink[slot];
            case FIELD_PACKET:
                return framePacket[slot];
            case FIELD_HOP:
                return frameHop[slot];
            default:
                return REFUSED;
        }
    }

    public int dropped() {
        return droppedPackets;
    }

    private static int clamp(int value, int least, int greatest) {
        if (value < least) {
            return least;
        }
        if (value > greatest) {
            return greatest;
        }
        return value;
    }

    private static boolean isValid(int value) {
        return value >= 1 && value <= ADDRESS_MAX;
    }

    private static boolean isValidOrZero(int value) {
        return value >= 0 && value <= ADDRESS_MAX;
    }

    // The finders need no test of validity: only valid addresses are ever stored.

    private int findEntry(int a) {
        for (int e = 0; e < entryCount; e++) {
            if (entryAddress[e] == a) {
                return e;
            }
        }
        return ABSENT;
    }

    private int findOwn(int a) {
        for (int own = 0; own < ownCount; own++) {
            if (ownAddress[own] == a) {
                return own;
            }
        }
        return ABSENT;
    }

    private int findRouter(int a) {
        for (int r = 0; r < routerCount; r++) {
            if (routerAddress[r] == a) {
                return r;
            }
        }
        return ABSENT;
    }

    private int firstUnmarkedRouter() {
        for (int r = 0; r < routerCount; r++) {
            if (routerMark[r] == 0) {
                return r;
            }
        }
        return ABSENT;
    }

    private int selectedRouter() {
        if (routerCount == 0) {
            return 0;
        }
        int r = firstUnmarkedRouter();
        return r == ABSENT ? routerAddress[0] : routerAddress[r];
    }

    private void clearMarksIfAllMarked() {
        if (firstUnmarkedRouter() != ABSENT) {
            return;
        }
        for (int r = 0; r < routerCount; r++) {
            routerMark[r] = 0;
        }
    }

    private void startResolution(int hop, int packet, int destination) {
        int e = createEntry(hop);
        if (e == ABSENT) {
            droppedPackets++;
            return;
        }
        entryState[e] = INCOMPLETE;
        entryTimer[e] = retransTime;
        entryProbes[e] = 1;
        enqueue(e, packet, destination);
        emit(NS_MULTI, hop, 0, 0, 0);
    }

    // Answers the new entry's position, or ABSENT when no room can be made. Cells of a
    // deleted entry are used again, so link and queue are reset; the caller sets the state.
    private int createEntry(int a) {
        if (entryCount >= cacheSize) {
            int oldest = oldestNotIncomplete();
            if (oldest == ABSENT) {
                return ABSENT;
            }
            deleteEntry(oldest);
        }
        int e = entryCount;
        entryCount++;
        entryAddress[e] = a;
        entryLink[e] = 0;
        entryQueued[e] = 0;
        return e;
    }

    private int oldestNotIncomplete() {
        for (int e = 0; e < entryCount; e++) {
            if (entryState[e] != INCOMPLETE) {
                return e;
            }
        }
        return ABSENT;
    }

    private void deleteEntry(int e) {
        entryCount--;
        for (int to = e; to < entryCount; to++) {
            moveEntryDown(to);
        }
    }

    private void moveEntryDown(int to) {
        int from = to + 1;
        entryAddress[to] = entryAddress[from];
        entryState[to] = entryState[from];
        entryLink[to] = entryLink[from];
        entryTimer[to] = entryTimer[from];
        entryProbes[to] = entryProbes[from];
        entryQueued[to] = entryQueued[from];
        for (int k = 0; k < QUEUE_MAX; k++) {
            queueId[to * QUEUE_MAX + k] = queueId[from * QUEUE_MAX + k];
            queueDestination[to * QUEUE_MAX + k] = queueDestination[from * QUEUE_MAX + k];
        }
    }

    private void enqueue(int e, int packet, int destination) {
        if (entryQueued[e] >= QUEUE_MAX) {
            dropOldestQueued(e);
        }
        int cell = e * QUEUE_MAX + entryQueued[e];
        queueId[cell] = packet;
        queueDestination[cell] = destination;
        entryQueued[e]++;
    }

    private void dropOldestQueued(int e) {
        int first = e * QUEUE_MAX;
        for (int k = 0; k < QUEUE_MAX - 1; k++) {
            queueId[first + k] = queueId[first + k + 1];
            queueDestination[first + k] = queueDestination[first + k + 1];
        }
        entryQueued[e]--;
        droppedPackets++;
    }

    private void transmit(int e, int packet, int destination) {
        emit(DATA, destination, entryLink[e], packet, entryAddress[e]);
        if (entryState[e] == STALE) {
            entryState[e] = DELAY;
            entryTimer[e] = DELAY_TIME;
            entryProbes[e] = 0;
        }
    }

    private void flush(int e) {
        int first = e * QUEUE_MAX;
        int queued = entryQueued[e];
        for (int k = 0; k < queued; k++) {
            transmit(e, queueId[first + k], queueDestination[first + k]);
        }
        entryQueued[e] = 0;
    }

    private void enterReachable(int e) {
        entryState[e] = REACHABLE;
        entryTimer[e] = reachableTime;
        entryProbes[e] = 0;
    }

    private void enterStale(int e) {
        entryState[e] = STALE;
        entryTimer[e] = 0;
        entryProbes[e] = 0;
    }

    private void failEntry(int e) {
        droppedPackets += entryQueued[e];
        int r = findRouter(entryAddress[e]);
        if (r != ABSENT) {
            routerMark[r] = 1;
        }
        deleteEntry(e);
    }

    private void resolveByAdvertisement(int e, int link, boolean solicited) {
        if (link == 0) {
            return;
        }
        entryLink[e] = link;
        if (solicited) {
            enterReachable(e);
        } else {
            enterStale(e);
        }
        flush(e);
    }

    private void updateByAdvertisement(int e, int link, boolean solicited, boolean override) {
        boolean differs = link != 0 && link != entryLink[e];
        if (differs && !override) {
            if (entryState[e] == REACHABLE) {
                enterStale(e);
            }
            return;
        }
        if (differs) {
            entryLink[e] = link;
        }
        if (solicited) {
            enterReachable(e);
        } else if (differs) {
            enterStale(e);
        }
    }

    private void learnSource(int src, int link) {
        int e = findEntry(src);
        if (e == ABSENT) {
            e = createEntry(src);
            if (e != ABSENT) {
                entryLink[e] = link;
                enterStale(e);
            }
            return;
        }
        // An INCOMPLETE entry has link 0, so it always differs, and only it has a queue.
        if (entryLink[e] != link) {
            entryLink[e] = link;
            enterStale(e);
            flush(e);
        }
    }

    private void becomeDuplicateIfTentative(int own) {
        if (ownState[own] == TENTATIVE) {
            ownState[own] = DUPLICATE;
            ownTimer[own] = 0;
        }
    }

    // Answers whether the entry is still in the cache.
    private boolean ageEntry(int e) {
        if (entryState[e] == STALE) {
            return true;
        }
        entryTimer[e]--;
        if (entryTimer[e] > 0) {
            return true;
        }
        if (entryState[e] == REACHABLE) {
            enterStale(e);
            return true;
        }
        if (entryState[e] == DELAY) {
            entryState[e] = PROBE;
            entryProbes[e] = 0;
        } else if (entryProbes[e] >= maxSolicit) {
            failEntry(e);
            return false;
        }
        solicit(e);
        return true;
    }

    private void solicit(int e) {
        if (entryState[e] == INCOMPLETE) {
            emit(NS_MULTI, entryAddress[e], 0, 0, 0);
        } else {
            emit(NS_UNI, entryAddress[e], entryLink[e], 0, entryAddress[e]);
        }
        entryProbes[e]++;
        entryTimer[e] = retransTime;
    }

    private void ageTentative(int own) {
        ownTimer[own]--;
        if (ownTimer[own] > 0) {
            return;
        }
        if (ownSent[own] < maxSolicit) {
            emit(NS_DAD, ownAddress[own], 0, 0, 0);
            ownSent[own]++;
            ownTimer[own] = retransTime;
        } else {
            ownState[own] = PREFERRED;
            ownTimer[own] = 0;
        }
    }

    private void emit(int kind, int target, int link, int packet, int hop) {
        int slot = framesEmitted & FRAME_MASK;
        frameKind[slot] = kind;
        frameTarget[slot] = target;
        frameLink[slot] = link;
        framePacket[slot] = packet;
        frameHop[slot] = hop;
        framesEmitted++;
    }
}
