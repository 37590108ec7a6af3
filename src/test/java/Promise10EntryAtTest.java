// Promise 10: entryAt, and the term age order.
public final class Promise10EntryAtTest {
    private static final Due due = new Due();

    public static void main(String[] args) {
        answersAgeOrder();
        answersZeroOfAnEmptyCache();
        answersZeroBelow();
        answersZeroFromTheNumberOfEntriesOn();
        answersZeroWhereEntriesWere();
        changesNothing();
        due.end();
    }

    private static void answersAgeOrder() {
        NeighborCache x = new NeighborCache(3, 10, 2, 3);
        x.send(30, false);
        x.send(10, false);
        x.send(20, false);
        due.cache(x, 30, 10, 20);
        // neither use nor a change of state makes an entry younger
        x.receiveNA(10, 1, NeighborCache.FLAG_SOLICITED);
        x.send(30, false);
        x.confirm(10);
        due.cache(x, 30, 10, 20);
        x.send(40, false);
        due.cache(x, 30, 20, 40);
        x.receiveNA(30, 1, NeighborCache.FLAG_SOLICITED);
        x.send(10, false);
        due.cache(x, 20, 40, 10);
    }

    private static void answersZeroOfAnEmptyCache() {
        NeighborCache x = Make.plain();
        for (int i : new int[] {Integer.MIN_VALUE, -1, 0, 1, 15, 16, Integer.MAX_VALUE}) {
            due.is("entryAt(" + i + ") of an empty cache", x.entryAt(i), 0);
        }
    }

    // "or 0 if i is out of range (negative"
    private static void answersZeroBelow() {
        for (Stage stage : Stage.values()) {
            NeighborCache x = stage.make();
            for (int i : new int[] {-1, -2, -16, Integer.MIN_VALUE, Integer.MIN_VALUE + 1}) {
                due.is("entryAt(" + i + ") on " + stage, x.entryAt(i), 0);
            }
        }
    }

    // "or not less than the number of entries)", for every number of them
    private static void answersZeroFromTheNumberOfEntriesOn() {
        NeighborCache x = new NeighborCache(16, 10, 2, 3);
        for (int entries = 1; entries <= 16; entries++) {
            x.send(100 + entries, false);
            due.is("entryAt(0)", x.entryAt(0), 101);
            due.is("the last of " + entries, x.entryAt(entries - 1), 100 + entries);
            for (int i : new int[] {entries, entries + 1, 16, 17, 1 << 16, Integer.MAX_VALUE}) {
                due.is("entryAt(" + i + ") of " + entries, x.entryAt(i), 0);
            }
        }
    }

    private static void answersZeroWhereEntriesWere() {
        NeighborCache x = new NeighborCache(16, 10, 2, 3);
        for (int a = 1; a <= 16; a++) {
            x.send(a, false);
        }
        Make.ticks(x, 6);
        for (int i = 0; i <= 16; i++) {
            due.is("entryAt(" + i + ") when all are gone", x.entryAt(i), 0);
        }
        x.send(17, false);
        due.cache(x, 17);
    }

    // "Nothing changes."
    private static void changesNothing() {
        for (int i : new int[] {Integer.MIN_VALUE, -1, 0, 1, 3, 4, 15, 16, Integer.MAX_VALUE}) {
            Unchanged.everywhere(due, "entryAt(" + i + ")", true, x -> x.entryAt(i) >= 0);
        }
    }
}
