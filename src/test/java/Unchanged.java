import java.util.function.Function;
import java.util.function.Supplier;

// Holds that a call changes nothing: neither what can be read of the object, nor what shows only
// in later calls, such as the next packet id and the destinations of waiting packets.
final class Unchanged {
    private Unchanged() {
    }

    static void by(Due due, String call, Object answer, Supplier<NeighborCache> start,
            Function<NeighborCache, Object> make) {
        NeighborCache touched = start.get();
        NeighborCache twin = start.get();
        due.answer(call, make.apply(touched), answer);
        due.same(call, View.of(touched), View.of(twin));
        due.same(call + " and later calls", later(touched), later(twin));
    }

    static void on(Stage stage, Due due, String call, Object answer, Function<NeighborCache, Object> make) {
        by(due, call + " on " + stage, answer, stage::make, make);
    }

    static void everywhere(Due due, String call, Object answer, Function<NeighborCache, Object> make) {
        for (Stage stage : Stage.values()) {
            on(stage, due, call, answer, make);
        }
    }

    private static String later(NeighborCache x) {
        StringBuilder text = new StringBuilder();
        int[] known = new int[16];
        for (int i = 0; i < known.length; i++) {
            known[i] = x.entryAt(i);
        }
        // releases what waits, so that its destinations show
        for (int a : known) {
            x.receiveNA(a, 60000, 0);
        }
        for (int a : known) {
            text.append(" sent ").append(x.send(a, false));
        }
        text.append('\n').append(View.of(x));
        text.append(" sent ").append(x.send(60001, true)).append('\n');
        x.receiveNS(60002, Stage.OWN[NeighborCache.PREFERRED], 60003);
        for (int i = 0; i < 3; i++) {
            x.send(60004 + i, false);
        }
        text.append(View.of(x));
        Make.ticks(x, 6);
        text.append(View.of(x));
        Make.ticks(x, 60);
        text.append(" sent ").append(x.send(60001, true)).append('\n');
        text.append(View.of(x));
        return text.toString();
    }
}
