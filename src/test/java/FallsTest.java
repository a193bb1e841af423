/** Promises 29 to 34: what falls. */
final class FallsTest {
    public static void main(String[] args) {
        falls();
        keystones();
        whenItEnds();
        Kit.end("FallsTest");
    }

    private static void falls() {
        Kit k = Kit.of(TextsTest.TOWN);
        k.refused("falls(8)", k.it.falls(8), 2);
        k.refused("falls(-1)", k.it.falls(-1), 2);
        k.refused("loss(8)", k.it.loss(8), 2);
        k.refused("loss(-1)", k.it.loss(-1), 2);
        int[] falls = {145, 18, 4, 12, 16, 32, 64, 128};
        int[] loss = {28, 23, 5, 9, 20, 8, 1, 6};
        for (int t = 0; t < 8; t++) {
            k.fine("falls(" + t + ")", k.it.falls(t), falls[t]);
            k.fine("loss(" + t + ")", k.it.loss(t), loss[t]);
        }
        k.fine("nothing is done by it", k.it.many(7), 0);
        k.fine("unmake wood", k.it.unmake(1), 18);
        k.fine("boat has but cart now", k.it.falls(0), 161);
        k.fine("loss", k.it.loss(0), 16);
        k.refused("falls of what is unmade", k.it.falls(1), 9);
        k.refused("falls of what has fallen", k.it.falls(4), 9);
        k.refused("loss of what is unmade", k.it.loss(1), 9);
        k.refused("loss of what has fallen", k.it.loss(4), 9);
    }

    private static void keystones() {
        Kit k = Kit.of(TextsTest.TOWN);
        k.fine("keystone()", k.it.keystone(), 0);
        k.it.unmake(0);
        k.fine("keystone() then", k.it.keystone(), 1);
        Kit worthless = Kit.of("thing a worth 0;thing b worth 0;");
        worthless.fine("of several the first", worthless.it.keystone(), 0);
        worthless.it.unmake(0);
        worthless.fine("worth nothing", worthless.it.keystone(), 1);
        worthless.it.unmake(1);
        worthless.refused("nothing stands", worthless.it.keystone(), 8);
        Kit spared = Kit.of("thing a;thing b worth 9 exempt;");
        spared.fine("an exempt one too", spared.it.keystone(), 1);
    }

    private static void whenItEnds() {
        Kit k = Kit.of(TextsTest.TOWN);
        k.refused("goneBy(8)", k.it.goneBy(8), 2);
        k.refused("goneBy(-1)", k.it.goneBy(-1), 2);
        k.refused("ends(3)", k.it.ends(3), 2);
        k.refused("ends(-1)", k.it.ends(-1), 2);
        k.refused("later(-1)", k.it.later(-1), 5);
        k.refused("later(100)", k.it.later(100), 5);
        int[] goneBy = {1, 2, -1, -1, 1, 2, 3, 1};
        for (int t = 0; t < 8; t++) {
            if (goneBy[t] < 0) {
                k.refused("goneBy(" + t + ")", k.it.goneBy(t), 8);
            } else {
                k.fine("goneBy(" + t + ")", k.it.goneBy(t), goneBy[t]);
            }
        }
        k.refused("ends(0)", k.it.ends(0), 8);
        k.fine("ends(1)", k.it.ends(1), 1);
        k.fine("ends(2)", k.it.ends(2), 1);
        int[] later = {255, 110, 76, 12, 12};
        for (int y = 0; y < later.length; y++) {
            k.fine("later(" + y + ")", k.it.later(y), later[y]);
        }
        k.fine("later(99)", k.it.later(99), 12);
        k.fine("nothing is done by it", k.it.many(5) + k.it.many(7), 0);
        k.it.unmake(1);
        k.fine("gone now", k.it.goneBy(1), 0);
        k.fine("fallen now", k.it.goneBy(4), 0);
        k.fine("ended now", k.it.ends(1), 0);
        Kit slow = Kit.of("thing a;thing b;thing c;voter v;hates v a 3;hates v b 2;hates v c 1;work w needs c;");
        slow.fine("the third year", slow.it.goneBy(2), 3);
        slow.fine("its work", slow.it.ends(0), 3);
    }
}
