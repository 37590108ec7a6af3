// Promise 15: frameCount and frameField.
public final class Promise15FramesTest {
    private static final Due due = new Due();

    public static void main(String[] args) {
        logsEveryKind();
        refusesOutOfRange();
        keepsTheLast64();
        due.end();
    }

    private static void logsEveryKind() {
        NeighborCache x = new NeighborCache(4, 10, 1, 2);
        x.addRouter(9);
        x.addAddress(5);
        Make.ticks(x, 2);
        x.send(31, true);
        x.receiveNA(9, 90, 0);
        Make.ticks(x, 5);
        x.receiveNS(8, 5, 80);
        due.is("frameCount()", x.frameCount(), 6);
        due.frame(x, 0, NeighborCache.NS_DAD, 5, 0, 0, 0);
        due.frame(x, 1, NeighborCache.NS_DAD, 5, 0, 0, 0);
        due.frame(x, 2, NeighborCache.NS_MULTI, 9, 0, 0, 0);
        due.frame(x, 3, NeighborCache.DATA, 31, 90, 1, 9);
        due.frame(x, 4, NeighborCache.NS_UNI, 9, 90, 0, 9);
        due.frame(x, 5, NeighborCache.NA, 5, 80, 0, 8);
    }

    private static void refusesOutOfRange() {
        NeighborCache x = Make.plain();
        due.is("frameField(0, 0) of an empty log", x.frameField(0, 0), NeighborCache.REFUSED);
        due.is("frameField(-1, 0) of an empty log", x.frameField(-1, 0), NeighborCache.REFUSED);
        x.addAddress(5);
        x.addAddress(6);
        String before = View.of(x);
        for (int n : new int[] {-1, -64, 2, 3, 64, Integer.MIN_VALUE, Integer.MAX_VALUE}) {
            for (int f = -1; f <= 5; f++) {
                due.is("frameField(" + n + ", " + f + ")", x.frameField(n, f), NeighborCache.REFUSED);
            }
        }
        for (int f : new int[] {-1, 5, 6, Integer.MIN_VALUE, Integer.MAX_VALUE}) {
            due.is("frameField(0, " + f + ")", x.frameField(0, f), NeighborCache.REFUSED);
        }
        due.same("frameField", View.of(x), before);
    }

    private static void keepsTheLast64() {
        NeighborCache x = Make.plain();
        Make.reachable(x, 9, 90);
        // frame n is DATA with packet n from frame 1 on
        for (int count = 3; count <= 300; count++) {
            x.send(9, false);
            due.is("frameCount()", x.frameCount(), count);
            int oldest = Math.max(0, count - 64);
            for (int n = oldest - 3; n < oldest; n++) {
                due.is("frameField(" + n + ", 0) of " + count, x.frameField(n, 0), NeighborCache.REFUSED);
            }
            for (int n = Math.max(1, oldest); n < count; n++) {
                due.frame(x, n, NeighborCache.DATA, 9, 90, n, 9);
            }
            due.is("frameField(" + count + ", 0)", x.frameField(count, 0), NeighborCache.REFUSED);
        }
        // a frame in a place used before keeps no field of the frame that was there
        x.addAddress(5);
        due.frame(x, 300, NeighborCache.NS_DAD, 5, 0, 0, 0);
    }
}
