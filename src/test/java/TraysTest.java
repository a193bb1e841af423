/** Promises 1 to 8: a new object, STATUS, the FRACTION, trays. */
final class TraysTest {
    public static void main(String[] args) {
        aNewObject();
        statusIsOfTheLatestCallThatHasOne();
        fraction();
        trays();
        writing();
        pouring();
        Kit.end("TraysTest");
    }

    private static void aNewObject() {
        Kit k = new Kit();
        Kit.due("NONE", Unmade.NONE, -1);
        Kit.due("status()", k.it.status(), 0);
        Kit.due("top()", k.it.top(), 0);
        Kit.due("bottom()", k.it.bottom(), 1);
        for (int t = 0; t < 4; t++) {
            k.refused("read(" + t + ", 0)", k.it.read(t, 0), 3);
        }
        for (int what = 0; what < 12; what++) {
            k.fine("many(" + what + ")", k.it.many(what), 0);
        }
        k.refused("live(0)", k.it.live(0), 8);
        k.refused("back()", k.it.back(), 8);
        k.refused("city(1) of an empty tape", k.it.city(1), 5);
        Kit.due("feed", k.it.feed(0, 0, 0, 0, 0), 20);
    }

    private static void statusIsOfTheLatestCallThatHasOne() {
        Kit k = new Kit();
        k.refused("many(12)", k.it.many(12), 5);
        k.it.fault(0);
        k.it.feed(1, 2, 3, 4, 5);
        k.it.top();
        k.it.bottom();
        Kit.due("status() behind calls without one", k.it.status(), 5);
        k.fine("many(0)", k.it.many(0), 0);
        Kit.due("status() twice", k.it.status(), 0);
    }

    private static void fraction() {
        Kit k = Kit.of("thing a;thing b;thing c;ahead a b;");
        k.fine("aheadOdds(a, c)", k.it.aheadOdds(0, 2));
        Kit.due("top()", k.it.top(), 2);
        Kit.due("bottom()", k.it.bottom(), 3);
        k.refused("aheadOdds(a, a)", k.it.aheadOdds(0, 0), 9);
        Kit.due("top() behind a refused call", k.it.top(), 2);
        k.fine("aheadOdds(b, a)", k.it.aheadOdds(1, 0));
        Kit.due("top() of nothing", k.it.top(), 0);
        Kit.due("bottom() of nothing", k.it.bottom(), 1);
        k.fine("aheadOdds(a, b)", k.it.aheadOdds(0, 1));
        Kit.due("top() of all", k.it.top(), 1);
        Kit.due("bottom() of all", k.it.bottom(), 1);
    }

    private static void trays() {
        Kit k = new Kit();
        k.refused("tray(-1)", k.it.tray(-1, 0, 1), 1);
        k.refused("tray(4)", k.it.tray(4, 0, 1), 1);
        k.refused("tray sort -1", k.it.tray(0, -1, 1), 1);
        k.refused("tray sort 4", k.it.tray(0, 4, 1), 1);
        k.refused("tray sort 4, 61", k.it.tray(0, 4, 61), 1);
        k.refused("tray 61", k.it.tray(0, 0, 61), 5);
        k.refused("tray -1", k.it.tray(0, 0, -1), 6);
        k.refused("tray least", k.it.tray(0, 0, Integer.MIN_VALUE), 6);
        k.refused("tray most", k.it.tray(0, 0, Integer.MAX_VALUE), 5);
        k.refused("still missing", k.it.read(0, 0), 3);
        k.fine("tray 60", k.it.tray(0, 3, 60));
        k.fine("read(0, 59)", k.it.read(0, 59), 0);
        k.refused("read(0, 60)", k.it.read(0, 60), 4);
        k.fine("write", k.it.write(0, 59, 7));
        k.refused("tray refused keeps it", k.it.tray(0, 0, 61), 5);
        k.fine("read(0, 59)", k.it.read(0, 59), 7);
        k.fine("tray anew", k.it.tray(0, 3, 60));
        k.fine("all 0 again", k.it.read(0, 59), 0);
        k.fine("tray of nothing", k.it.tray(0, 1, 0));
        k.refused("read(0, 0) of nothing", k.it.read(0, 0), 4);
        k.fine("pour of nothing", k.it.pour(0, 0, 0, 0, 0));
    }

    private static void writing() {
        Kit k = new Kit();
        long[] cut = {(byte) 0x8081828384858687L, (short) 0x8081828384858687L, (int) 0x8081828384858687L, 0x8081828384858687L};
        for (int sort = 0; sort < 4; sort++) {
            k.fine("tray", k.it.tray(sort, sort, 2));
            k.fine("write", k.it.write(sort, 1, 0x8081828384858687L));
            k.fine("read of sort " + sort, k.it.read(sort, 1), cut[sort]);
            k.fine("read beside it", k.it.read(sort, 0), 0);
            k.fine("write -1", k.it.write(sort, 0, -1));
            k.fine("read -1", k.it.read(sort, 0), -1);
        }
        k.refused("write(-1)", k.it.write(-1, 0, 5), 1);
        k.refused("write(4)", k.it.write(4, 0, 5), 1);
        k.refused("write place 2", k.it.write(0, 2, 5), 4);
        k.refused("write place -1", k.it.write(0, -1, 5), 4);
        k.refused("read(9, 0)", k.it.read(9, 0), 1);
        k.refused("read place -1", k.it.read(0, -1), 4);
        k.refused("read place 2", k.it.read(0, 2), 4);
        k.it = new Unmade();
        k.refused("write to a missing one", k.it.write(2, -1, 5), 3);
    }

    private static void pouring() {
        Kit k = new Kit();
        k.refused("pour(4)", k.it.pour(4, 0, 0, 0, -1), 1);
        k.refused("pour to -1", k.it.pour(0, 0, -1, 0, -1), 1);
        k.refused("pour of missing ones", k.it.pour(0, 0, 1, 0, -1), 3);
        k.it.tray(0, 2, 5);
        k.refused("pour to a missing one", k.it.pour(0, 0, 1, 0, -1), 3);
        k.refused("pour from a missing one", k.it.pour(1, 0, 0, 0, -1), 3);
        k.it.tray(1, 1, 5);
        k.refused("pour to an unlike one", k.it.pour(0, 0, 1, 0, -1), 11);
        k.it.tray(1, 2, 3);
        k.refused("pour -1", k.it.pour(0, 9, 1, 9, -1), 6);
        k.refused("pour beyond", k.it.pour(0, 3, 1, 0, 3), 4);
        k.refused("pour to beyond", k.it.pour(0, 0, 1, 1, 3), 4);
        k.refused("pour from -1", k.it.pour(0, -1, 1, 0, 1), 4);
        k.refused("pour to -1", k.it.pour(0, 0, 1, -1, 1), 4);
        k.refused("pour very much", k.it.pour(0, 1, 1, 1, Integer.MAX_VALUE), 4);
        k.refused("pour from far", k.it.pour(0, Integer.MAX_VALUE, 1, 0, 1), 4);
        k.fine("pour nothing at the ends", k.it.pour(0, 5, 1, 3, 0));
        for (int i = 0; i < 5; i++) {
            k.it.write(0, i, 10 + i);
        }
        k.fine("pour", k.it.pour(0, 1, 1, 1, 2));
        k.fine("poured 0", k.it.read(1, 0), 0);
        k.fine("poured 1", k.it.read(1, 1), 11);
        k.fine("poured 2", k.it.read(1, 2), 12);
        k.fine("pour within, on", k.it.pour(0, 0, 0, 1, 4));
        long[] on = {10, 10, 11, 12, 13};
        for (int i = 0; i < 5; i++) {
            k.fine("within " + i, k.it.read(0, i), on[i]);
        }
        k.fine("pour within, back", k.it.pour(0, 1, 0, 0, 4));
        long[] back = {10, 11, 12, 13, 13};
        for (int i = 0; i < 5; i++) {
            k.fine("within back " + i, k.it.read(0, i), back[i]);
        }
    }
}
