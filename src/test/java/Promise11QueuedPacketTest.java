// Promise 11: queuedPacket.
public final class Promise11QueuedPacketTest {
    private static final Due due = new Due();

    public static void main(String[] args) {
        answersOldestFirst();
        answersZeroWhereNoneIs();
        due.end();
    }

    private static void answersOldestFirst() {
        NeighborCache x = Make.plain();
        x.send(8, false);
        x.send(9, false);
        x.send(8, false);
        x.send(9, false);
        x.send(9, false);
        x.send(9, false);
        due.queue(x, 8, 1, 3);
        due.queue(x, 9, 4, 5, 6);
    }

    private static void answersZeroWhereNoneIs() {
        NeighborCache x = Make.plain();
        x.addRouter(7);
        x.send(8, false);
        x.send(9, false);
        x.send(9, false);
        x.send(9, false);
        String before = View.of(x);
        for (int k : new int[] {-1, 3, 4, Integer.MIN_VALUE, Integer.MAX_VALUE}) {
            due.is("queuedPacket(9, " + k + ")", x.queuedPacket(9, k), 0);
        }
        due.is("queuedPacket(8, 1)", x.queuedPacket(8, 1), 0);
        due.is("queuedPacket(8, -1)", x.queuedPacket(8, -1), 0);
        for (int a : new int[] {1, 7, 0, -1, 65536, Integer.MIN_VALUE, Integer.MAX_VALUE}) {
            due.is("queuedPacket(" + a + ", 0)", x.queuedPacket(a, 0), 0);
        }
        due.same("queuedPacket", View.of(x), before);
        x.receiveNA(9, 90, NeighborCache.FLAG_SOLICITED);
        for (int k = 0; k < 3; k++) {
            due.is("queuedPacket(9, " + k + ") when resolved", x.queuedPacket(9, k), 0);
        }
    }
}
