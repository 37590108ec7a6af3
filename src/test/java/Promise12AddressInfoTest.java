// Promise 12: addressInfo.
public final class Promise12AddressInfoTest {
    private static final int[] NO_FIELDS = {-1, 3, 4, 16, Integer.MIN_VALUE, Integer.MAX_VALUE};
    private static final Due due = new Due();

    public static void main(String[] args) {
        answersEveryState();
        keepsSent();
        refusesUnknownFields();
        refusesUnknownFieldsOfForeign();
        answersNoneForForeign();
        answersNoneNotValid();
        answersAllOfAFullTable();
        changesNothing();
        due.end();
    }

    // "TIMER is 0 once the address is PREFERRED or DUPLICATE."
    private static void answersEveryState() {
        NeighborCache x = Make.plain();
        Make.preferred(x, 5);
        x.addAddress(6);
        Make.ticks(x, 2);
        x.receiveNS(0, 6, 0);
        x.addAddress(7);
        x.tick();
        due.own(x, 5, NeighborCache.PREFERRED, 0, 3);
        due.own(x, 6, NeighborCache.DUPLICATE, 0, 2);
        due.own(x, 7, NeighborCache.TENTATIVE, 1, 1);
    }

    // "SENT keeps its value after TENTATIVE ends", from 1 to the greatest
    private static void keepsSent() {
        for (int sent = 1; sent <= 5; sent++) {
            NeighborCache preferred = new NeighborCache(4, 10, 2, sent);
            preferred.addAddress(5);
            Make.ticks(preferred, 100);
            due.own(preferred, 5, NeighborCache.PREFERRED, 0, sent);
            NeighborCache duplicate = new NeighborCache(4, 10, 2, 5);
            duplicate.addAddress(5);
            Make.ticks(duplicate, 2 * sent - 1);
            duplicate.receiveNA(5, 0, 0);
            Make.ticks(duplicate, 100);
            due.own(duplicate, 5, NeighborCache.DUPLICATE, 0, sent);
        }
    }

    // "If f is not an ADDR_ constant the answer is REFUSED"
    private static void refusesUnknownFields() {
        for (int f : NO_FIELDS) {
            for (int state = NeighborCache.TENTATIVE; state <= NeighborCache.DUPLICATE; state++) {
                int a = Stage.OWN[state];
                Unchanged.on(Stage.BUSY, due, "addressInfo(" + a + ", " + f + ")", NeighborCache.REFUSED,
                    x -> x.addressInfo(a, f));
            }
        }
    }

    // "whether or not a is in the own table (this test comes first)"
    private static void refusesUnknownFieldsOfForeign() {
        for (int f : NO_FIELDS) {
            for (int a : new int[] {11, 31, Stage.STRANGER, 0, -1, 65536, Integer.MIN_VALUE, Integer.MAX_VALUE}) {
                Unchanged.everywhere(due, "addressInfo(" + a + ", " + f + ")", NeighborCache.REFUSED,
                    x -> x.addressInfo(a, f));
            }
        }
    }

    // "If a is not in the own table, ADDR_STATE answers NONE and the other fields 0."
    private static void answersNoneForForeign() {
        for (Stage stage : Stage.values()) {
            NeighborCache x = stage.make();
            for (int a : new int[] {1, 11, 12, 31, 34, 41, Stage.STRANGER, 65535}) {
                due.own(x, a, NeighborCache.NONE, 0, 0);
            }
        }
        // a ninth address did not get in
        NeighborCache x = Stage.FULL.make();
        x.addAddress(29);
        due.own(x, 29, NeighborCache.NONE, 0, 0);
    }

    private static void answersNoneNotValid() {
        for (Stage stage : Stage.values()) {
            NeighborCache x = stage.make();
            for (int a : Stage.NOT_VALID) {
                due.own(x, a, NeighborCache.NONE, 0, 0);
            }
        }
    }

    private static void answersAllOfAFullTable() {
        NeighborCache x = Make.plain();
        int[] addresses = {65535, 1, 7, 6, 5, 4, 3, 2};
        for (int a : addresses) {
            x.addAddress(a);
        }
        x.tick();
        for (int a : addresses) {
            due.own(x, a, NeighborCache.TENTATIVE, 1, 1);
        }
    }

    // "Nothing changes."
    private static void changesNothing() {
        Unchanged.everywhere(due, "addressInfo", true, x -> {
            for (int a = -1; a <= 60; a++) {
                for (int f = -1; f <= 3; f++) {
                    x.addressInfo(a, f);
                }
            }
            return true;
        });
    }
}
