// Promise 15: frameCount and frameField, and the term frames.
public final class Promise15FramesTest {
    private static final int[] NO_FIELDS = {-1, 5, 6, 64, Integer.MIN_VALUE, Integer.MAX_VALUE};
    private static final Due due = new Due();

    public static void main(String[] args) {
        logsEveryKind();
        refusesAnEmptyLog();
        refusesBelowZero();
        refusesFromFrameCountOn();
        refusesUnknownFields();
        keepsTheLast64();
        forgetsThe65thLast();
        reusesPlacesWithoutTrace();
        wrapsWithinOneCall();
        changesNothing();
        due.end();
    }

    private static void logsEveryKind() {
        NeighborCache x = new NeighborCache(4, 10, 1, 2);
        x.addRouter(9);
        x.addAddress(5);
        Make.ticks(x, 2);
        x.send(31, true);
        x.receiveNA(9, 90, 0);
        Make.ticks(x, 5);
        x.receiveNS(8, 5, 80);
        due.is("frameCount()", x.frameCount(), 6);
        due.frame(x, 0, NeighborCache.NS_DAD, 5, 0, 0, 0);
        due.frame(x, 1, NeighborCache.NS_DAD, 5, 0, 0, 0);
        due.frame(x, 2, NeighborCache.NS_MULTI, 9, 0, 0, 0);
        due.frame(x, 3, NeighborCache.DATA, 31, 90, 1, 9);
        due.frame(x, 4, NeighborCache.NS_UNI, 9, 90, 0, 9);
        due.frame(x, 5, NeighborCache.NA, 5, 80, 0, 8);
    }

    private static void refusesAnEmptyLog() {
        for (int n : new int[] {Integer.MIN_VALUE, -64, -1, 0, 1, 63, 64, Integer.MAX_VALUE}) {
            for (int f = -1; f <= 5; f++) {
                int field = f;
                Unchanged.on(Stage.EMPTY, due, "frameField(" + n + ", " + f + ")", NeighborCache.REFUSED,
                    x -> x.frameField(n, field));
            }
        }
    }

    // An object with frames 0 to frames - 1; from frame 1 on, frame n is DATA with packet n.
    private static NeighborCache withFrames(int frames) {
        NeighborCache x = Make.plain();
        if (frames > 0) {
            x.send(9, false);
        }
        if (frames > 1) {
            x.receiveNA(9, 90, NeighborCache.FLAG_SOLICITED);
        }
        for (int n = 2; n < frames; n++) {
            x.send(9, false);
        }
        due.is("frameCount()", x.frameCount(), frames);
        return x;
    }

    private static void refusesAllFields(NeighborCache x, int n) {
        for (int f = -1; f <= 5; f++) {
            due.is("frameField(" + n + ", " + f + ") of " + x.frameCount(), x.frameField(n, f),
                NeighborCache.REFUSED);
        }
    }

    // "REFUSED unless n >= 0", also while frameCount() - 64 is below 0
    private static void refusesBelowZero() {
        for (int frames = 0; frames <= 130; frames++) {
            NeighborCache x = withFrames(frames);
            for (int n : new int[] {-1, -2, frames - 64, -63, -64, -65, Integer.MIN_VALUE, Integer.MIN_VALUE + 1}) {
                if (n < 0) {
                    refusesAllFields(x, n);
                }
            }
        }
    }

    // "n < frameCount()"
    private static void refusesFromFrameCountOn() {
        for (int frames = 0; frames <= 200; frames++) {
            NeighborCache x = withFrames(frames);
            for (int n : new int[] {frames, frames + 1, frames + 63, frames + 64, Integer.MAX_VALUE}) {
                refusesAllFields(x, n);
            }
            if (frames > 0) {
                due.is("kind of the last of " + frames, x.frameField(frames - 1, NeighborCache.FIELD_KIND),
                    frames == 1 ? NeighborCache.NS_MULTI : NeighborCache.DATA);
            }
        }
    }

    // "and f is a FIELD_ constant"
    private static void refusesUnknownFields() {
        for (Stage stage : Stage.values()) {
            int last = stage.make().frameCount() - 1;
            for (int f : NO_FIELDS) {
                for (int n : new int[] {last, last - 1, last - 63, 0}) {
                    Unchanged.on(stage, due, "frameField(" + n + ", " + f + ")", NeighborCache.REFUSED,
                        x -> x.frameField(n, f));
                }
            }
        }
    }

    // "frameCount() - 64 <= n": all of the last 64, however often the places were used again
    private static void keepsTheLast64() {
        for (int frames = 2; frames <= 330; frames++) {
            NeighborCache x = withFrames(frames);
            for (int n = Math.max(1, frames - 64); n < frames; n++) {
                due.frame(x, n, NeighborCache.DATA, 9, 90, n, 9);
            }
        }
        NeighborCache x = withFrames(64);
        due.frame(x, 0, NeighborCache.NS_MULTI, 9, 0, 0, 0);
    }

    private static void forgetsThe65thLast() {
        for (int frames = 65; frames <= 330; frames++) {
            NeighborCache x = withFrames(frames);
            refusesAllFields(x, frames - 65);
            refusesAllFields(x, frames - 66);
            refusesAllFields(x, 0);
        }
        due.is("frame 0 of 64", withFrames(64).frameField(0, NeighborCache.FIELD_KIND), NeighborCache.NS_MULTI);
    }

    // "unused fields are 0", also where the frame 64 before had used them
    private static void reusesPlacesWithoutTrace() {
        NeighborCache x = new NeighborCache(4, 60, 1, 2);
        x.addAddress(5);
        Make.ticks(x, 2);
        Make.delay(x, 8, 80);
        Make.reachable(x, 9, 90);
        while (x.frameCount() < 100) {
            x.send(9, false);
        }
        x.addAddress(6);
        due.frame(x, 100, NeighborCache.NS_DAD, 6, 0, 0, 0);
        int waiting = x.send(7, false);
        due.frame(x, 101, NeighborCache.NS_MULTI, 7, 0, 0, 0);
        x.receiveNS(0, 5, 0);
        due.frame(x, 102, NeighborCache.NA, 5, 0, 0, 0);
        x.receiveNS(9, 5, 0);
        due.frame(x, 103, NeighborCache.NA, 5, 0, 0, 9);
        x.receiveNS(9, 5, 90);
        due.frame(x, 104, NeighborCache.NA, 5, 90, 0, 9);
        x.receiveNA(7, 70, NeighborCache.FLAG_SOLICITED);
        due.frame(x, 105, NeighborCache.DATA, 7, 70, waiting, 7);
        Make.ticks(x, 4);
        int n = x.frameCount();
        x.tick();
        due.frame(x, n, NeighborCache.NS_UNI, 8, 80, 0, 8);
    }

    // "every emitted frame gets the next frame number": also where one call passes a multiple of 64
    private static void wrapsWithinOneCall() {
        for (int frames = 60; frames <= 66; frames++) {
            NeighborCache x = withFrames(frames);
            x.send(8, false);
            x.send(8, false);
            x.send(8, false);
            x.receiveNA(8, 80, 0);
            due.is("frameCount()", x.frameCount(), frames + 4);
            due.frame(x, frames, NeighborCache.NS_MULTI, 8, 0, 0, 0);
            for (int i = 0; i < 3; i++) {
                due.frame(x, frames + 1 + i, NeighborCache.DATA, 8, 80, frames + i, 8);
            }
            due.frame(x, frames - 1, NeighborCache.DATA, 9, 90, frames - 1, 9);
        }
    }

    // "Neither call changes anything."
    private static void changesNothing() {
        Unchanged.everywhere(due, "frameCount()", true, x -> x.frameCount() >= 0);
        Unchanged.everywhere(due, "frameField", true, x -> {
            for (int n = -2; n <= 200; n++) {
                for (int f = -1; f <= 5; f++) {
                    x.frameField(n, f);
                }
            }
            return true;
        });
    }
}
