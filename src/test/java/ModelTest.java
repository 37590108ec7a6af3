import java.util.Random;

// Random runs, the same ones every time, on a NeighborCache and on the Model: every answer and,
// after every call, everything that can be read must be the same in both.
public final class ModelTest {
    private static final int RUNS = 2000;
    private static final int CALLS = 200;
    private static final int[] WRONG = {0, -1, 65536, Integer.MIN_VALUE, Integer.MAX_VALUE};

    private final Due due = new Due();
    private Random random;
    private NeighborCache real;
    private Model model;
    private int addresses;

    public static void main(String[] args) {
        new ModelTest().runAll();
    }

    private void runAll() {
        for (int run = 0; run < RUNS; run++) {
            random = new Random(run);
            start();
            // what follows a wrong answer tells nothing more
            for (int call = 0; call < CALLS && due.allRight(); call++) {
                String where = "run " + run + " call " + call + ": ";
                step(where);
                compareAll(where);
            }
        }
        due.end();
    }

    private void start() {
        int cacheSize = random.nextInt(4) == 0 ? random.nextInt(20) : random.nextInt(6);
        int reachableTime = random.nextInt(4) == 0 ? random.nextInt(70) : random.nextInt(12);
        int retransTime = random.nextInt(4) == 0 ? random.nextInt(13) : random.nextInt(3);
        int maxSolicit = random.nextInt(8) - 1;
        real = new NeighborCache(cacheSize, reachableTime, retransTime, maxSolicit);
        model = new Model(cacheSize, reachableTime, retransTime, maxSolicit);
        // few addresses, so that own addresses, routers and neighbours often meet
        addresses = 3 + random.nextInt(18);
    }

    private int address() {
        return random.nextInt(25) == 0 ? WRONG[random.nextInt(WRONG.length)] : 1 + random.nextInt(addresses);
    }

    private int addressOrZero() {
        return random.nextInt(4) == 0 ? 0 : address();
    }

    private int link() {
        int pick = random.nextInt(10);
        return pick == 0 ? WRONG[random.nextInt(WRONG.length)] : pick < 3 ? 0 : 100 + random.nextInt(3);
    }

    private void step(String where) {
        int a = address();
        int b = addressOrZero();
        int link = link();
        int flags = random.nextInt(10) == 0 ? random.nextInt() : random.nextInt(4);
        boolean offLink = random.nextInt(3) == 0;
        switch (random.nextInt(24)) {
            case 0:
                same(where + "addAddress(" + a + ")", real.addAddress(a), model.addAddress(a));
                break;
            case 1:
                if (random.nextInt(2) == 0) {
                    same(where + "addRouter(" + a + ")", real.addRouter(a), model.addRouter(a));
                }
                break;
            case 2: case 3: case 4: case 5: case 6: case 7: case 8:
                due.is(where + "send(" + a + ", " + offLink + ")", real.send(a, offLink), model.send(a, offLink));
                break;
            case 9: case 10: case 11:
                same(where + "receiveNA(" + a + ", " + link + ", " + flags + ")",
                    real.receiveNA(a, link, flags), model.receiveNA(a, link, flags));
                break;
            case 12: case 13: case 14:
                same(where + "receiveNS(" + b + ", " + a + ", " + link + ")",
                    real.receiveNS(b, a, link), model.receiveNS(b, a, link));
                break;
            case 15:
                same(where + "confirm(" + a + ")", real.confirm(a), model.confirm(a));
                break;
            default:
                real.tick();
                model.tick();
                break;
        }
    }

    private void same(String call, boolean got, boolean want) {
        due.is(call, got ? 1 : 0, want ? 1 : 0);
    }

    private void compareAll(String where) {
        for (int a = 0; a <= addresses + 1; a++) {
            for (int f = -1; f <= 5; f++) {
                read(where, "entryInfo", a, f, real.entryInfo(a, f), model.entryInfo(a, f));
                read(where, "addressInfo", a, f, real.addressInfo(a, f), model.addressInfo(a, f));
            }
            for (int k = -1; k <= 3; k++) {
                read(where, "queuedPacket", a, k, real.queuedPacket(a, k), model.queuedPacket(a, k));
            }
        }
        for (int i = -1; i <= 17; i++) {
            read(where, "entryAt", i, 0, real.entryAt(i), model.entryAt(i));
        }
        for (int i = -1; i <= 4; i++) {
            for (int f = -1; f <= 2; f++) {
                read(where, "routerInfo", i, f, real.routerInfo(i, f), model.routerInfo(i, f));
            }
        }
        read(where, "defaultRouter", 0, 0, real.defaultRouter(), model.defaultRouter());
        read(where, "dropped", 0, 0, real.dropped(), model.dropped());
        read(where, "frameCount", 0, 0, real.frameCount(), model.frameCount());
        for (int n = model.frameCount() - 66; n <= model.frameCount(); n++) {
            for (int f = -1; f <= 5; f++) {
                read(where, "frameField", n, f, real.frameField(n, f), model.frameField(n, f));
            }
        }
    }

    // The text is made only where the answers differ: making it for every read takes most of the time.
    private void read(String where, String method, int first, int second, int got, int want) {
        if (got != want) {
            due.is(where + "then " + method + "(" + first + ", " + second + ")", got, want);
        }
    }
}
