/** Promises 45 to 51: what it was, and the orders of history. */
final class PastTest {
    public static void main(String[] args) {
        wasIt();
        looks();
        sure();
        histories();
        odds();
        Kit.end("PastTest");
    }

    private static void wasIt() {
        Kit k = Kit.of(TextsTest.TOWN);
        k.refused("wasIt(256)", k.it.wasIt(256), 5);
        k.refused("wasIt(-1)", k.it.wasIt(-1), 5);
        k.fine("wasIt(145): nail", k.it.wasIt(145), 1);
        k.fine("wasIt(12): oil, that is exempt", k.it.wasIt(12), 8);
        k.fine("wasIt(0)", k.it.wasIt(0), 0);
        k.fine("wasIt(255)", k.it.wasIt(255), 0);
        Kit alike = Kit.of("thing a;thing b;thing c;makes a from b;makes b from a;makes a from c;");
        alike.fine("b from a, a from c: b alone falls", alike.it.wasIt(2), 2);
        alike.fine("c fells all", alike.it.wasIt(7), 4);
        alike.fine("a fells b", alike.it.wasIt(3), 1);
        alike.it.unmake(1);
        alike.fine("what does not stand falls with nothing", alike.it.wasIt(2), 0);
        Kit chain = chain();
        chain.fine("a alone fells all", chain.it.wasIt(7), 1);
        chain.it.unmake(0);
        chain.fine("nothing is left to fall", chain.it.wasIt(0), 0);
    }

    private static Kit chain() {
        return Kit.of("thing a;thing b;thing c;makes b from a;makes c from b;");
    }

    /** Things that are made from each other, too. */
    private static Kit ring() {
        return Kit.of("thing a;thing b;thing c;thing d;makes b from c d;makes c from b;makes c from a;makes b from a c;makes a from d;");
    }

    private static void looks() {
        Kit k = Kit.of(TextsTest.TOWN);
        k.refused("tells(256)", k.it.tells(256), 5);
        k.refused("tells(-1)", k.it.tells(-1), 5);
        k.refused("tells(0)", k.it.tells(0), 5);
        k.refused("tells(4)", k.it.tells(4), 5);
        k.fine("tells(3): nail or not", k.it.tells(3), 0);
        k.fine("tells(255): bridge falls with three", k.it.tells(255), 4);
        k.fine("tells(15): lamp falls with two of four", k.it.tells(15), 2);
        k.fine("tells(99): bridge falls with two of four, though it is none of them", k.it.tells(99), 4);
        k.it.unmake(0);
        k.refused("some that do not stand", k.it.tells(17), 5);
        Kit chain = chain();
        chain.fine("of several the first", chain.it.tells(7), 0);
        Kit ring = ring();
        ring.fine("falls of a", ring.it.falls(0), 7);
        ring.fine("a and b are told by a", ring.it.tells(3), 0);
    }

    private static void sure() {
        Kit k = Kit.of(TextsTest.TOWN);
        k.refused("sure(256)", k.it.sure(256), 5);
        k.refused("sure(-1)", k.it.sure(-1), 5);
        k.refused("sure(0)", k.it.sure(0), 5);
        k.fine("sure(1)", k.it.sure(1), 0);
        k.fine("sure(3)", k.it.sure(3), 1);
        k.fine("sure(15)", k.it.sure(15), 2);
        k.fine("sure(99): by bridge", k.it.sure(99), 2);
        k.it.unmake(0);
        k.refused("some that do not stand", k.it.sure(18), 5);
        Kit alone = Kit.of("thing a;thing b;thing c;thing d;thing e;");
        alone.fine("one after another", alone.it.sure(31), 4);
        // of two things that stand one can be had without the other, so no two of them fall alike
        Kit ring = ring();
        ring.fine("all four", ring.it.sure(15), 2);
    }

    private static void histories() {
        Kit none = new Kit();
        none.fine("without things", none.it.histories(), 1);
        none.fine("no firsts", none.it.firsts(), 0);
        none.fine("no clash", none.it.clash(), 0);
        Kit k = Kit.of(TextsTest.TOWN);
        // nail ahead of bridge and cart: 1 of 3; wood ahead of boat: 1 of 2
        k.fine("histories()", k.it.histories(), 40320 / 6);
        k.fine("firsts()", k.it.firsts(), 0b01001111);
        k.fine("clash()", k.it.clash(), 0);
        k.it.unmake(0);
        k.fine("of all things, unmade ones too", k.it.histories(), 6720);
        StringBuilder twelve = new StringBuilder();
        for (char c = 'a'; c < 'm'; c++) {
            twelve.append("thing ").append(c).append(';');
        }
        Kit all = Kit.of(twelve.toString());
        all.fine("twelve things", all.it.histories(), 479001600L);
        all.fine("all can be the first", all.it.firsts(), 4095);
        Kit ring = Kit.of("thing a;thing b;thing c;ahead a b;ahead b a;ahead b c;ahead c b;ahead c b;");
        ring.fine("no history", ring.it.histories(), 0);
        ring.fine("no firsts", ring.it.firsts(), 0);
        ring.fine("two are untrue", ring.it.clash(), 2);
    }

    private static void odds() {
        Kit k = Kit.of(TextsTest.TOWN);
        k.refused("aheadOdds(8, 8)", k.it.aheadOdds(8, 8), 2);
        k.refused("aheadOdds(0, 8)", k.it.aheadOdds(0, 8), 2);
        k.refused("aheadOdds(-1, 0)", k.it.aheadOdds(-1, 0), 2);
        k.refused("aheadOdds(1, 1)", k.it.aheadOdds(1, 1), 9);
        k.fine("aheadOdds(0, 4)", k.it.aheadOdds(0, 4));
        Kit.due("top", k.it.top(), 1);
        Kit.due("bottom", k.it.bottom(), 1);
        k.fine("aheadOdds(6, 2)", k.it.aheadOdds(6, 2));
        Kit.due("top", k.it.top(), 1);
        Kit.due("bottom", k.it.bottom(), 2);
        k.fine("aheadOdds(0, 6)", k.it.aheadOdds(0, 6));
        Kit.due("top", k.it.top(), 3);
        Kit.due("bottom", k.it.bottom(), 4);
        Kit ring = Kit.of("thing a;thing b;ahead a b;ahead b a;");
        ring.refused("one and itself, ahead of no history", ring.it.aheadOdds(0, 0), 9);
        ring.refused("no history", ring.it.aheadOdds(0, 1), 8);
        Kit.due("the fraction stays", ring.it.top(), 0);
    }
}
