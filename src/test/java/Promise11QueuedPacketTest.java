// Promise 11: queuedPacket.
public final class Promise11QueuedPacketTest {
    private static final Due due = new Due();

    public static void main(String[] args) {
        answersOldestFirst();
        answersZeroNotValid();
        answersZeroWithoutEntry();
        answersZeroBelow();
        answersZeroFromTheLengthOn();
        answersZeroWhenResolved();
        answersTheEndsOfValid();
        changesNothing();
        due.end();
    }

    private static void answersOldestFirst() {
        NeighborCache x = Make.plain();
        x.send(8, false);
        x.send(9, false);
        x.send(8, false);
        x.send(9, false);
        x.send(9, false);
        x.send(9, false);
        due.queue(x, 8, 1, 3);
        due.queue(x, 9, 4, 5, 6);
    }

    // "0 if there is none (a not valid"
    private static void answersZeroNotValid() {
        for (Stage stage : Stage.values()) {
            for (int a : Stage.NOT_VALID) {
                for (int k = -1; k <= 3; k++) {
                    due.is("queuedPacket(" + a + ", " + k + ") on " + stage, stage.make().queuedPacket(a, k), 0);
                }
            }
        }
    }

    // "no entry for a": a stranger, own addresses, a router, a destination behind a router
    private static void answersZeroWithoutEntry() {
        for (Stage stage : Stage.values()) {
            for (int a : new int[] {1, 21, 22, 23, 31, 41, 44, Stage.STRANGER, 65535}) {
                for (int k = -1; k <= 3; k++) {
                    due.is("queuedPacket(" + a + ", " + k + ") on " + stage, stage.make().queuedPacket(a, k), 0);
                }
            }
        }
    }

    // "or k negative": not even the last packet of the entry before
    private static void answersZeroBelow() {
        NeighborCache x = Stage.FULL.make();
        for (int a : new int[] {34, 11, 12, 13}) {
            for (int k : new int[] {-1, -2, -3, -16, Integer.MIN_VALUE, Integer.MIN_VALUE + 1}) {
                due.is("queuedPacket(" + a + ", " + k + ")", x.queuedPacket(a, k), 0);
            }
        }
    }

    // "or not less than the queue length)", for every length: not even the first packet of the next entry
    private static void answersZeroFromTheLengthOn() {
        NeighborCache x = Make.plain();
        x.send(8, false);
        x.send(9, false);
        x.send(9, false);
        x.send(9, false);
        for (int length = 1; length <= 3; length++) {
            due.is("queued", x.entryInfo(8, NeighborCache.INFO_QUEUED), length);
            for (int k : new int[] {length, length + 1, 3, 4, 16, Integer.MAX_VALUE, Integer.MAX_VALUE - 2}) {
                due.is("queuedPacket(8, " + k + ") of " + length, x.queuedPacket(8, k), 0);
            }
            x.send(8, false);
        }
        // the fourth did not make it longer
        due.queue(x, 8, 5, 6, 7);
        due.is("queuedPacket(9, 3) of the last entry", x.queuedPacket(9, 3), 0);
    }

    private static void answersZeroWhenResolved() {
        for (int state = NeighborCache.REACHABLE; state <= NeighborCache.PROBE; state++) {
            NeighborCache x = Make.plain();
            x.send(9, false);
            x.send(9, false);
            Make.inState(x, state, 9, 90);
            due.is("state to start from", x.entryInfo(9, NeighborCache.INFO_STATE), state);
            for (int k = -1; k <= 3; k++) {
                due.is("queuedPacket(9, " + k + ") in " + state, x.queuedPacket(9, k), 0);
            }
        }
    }

    private static void answersTheEndsOfValid() {
        NeighborCache x = Make.plain();
        x.send(1, false);
        x.send(65535, false);
        due.queue(x, 1, 1);
        due.queue(x, 65535, 2);
    }

    // "Nothing changes."
    private static void changesNothing() {
        Unchanged.everywhere(due, "queuedPacket", true, x -> {
            for (int a = -1; a <= 60; a++) {
                for (int k = -1; k <= 4; k++) {
                    x.queuedPacket(a, k);
                }
            }
            return true;
        });
    }
}
