/** Promises 19 to 28: what is done, and votes. */
final class DeedsTest {
    public static void main(String[] args) {
        years();
        makings();
        exemptions();
        grudgesAndLaws();
        whatWasFoundByOtherLawsCountsNoMore();
        votesByLaws();
        votesByRounds();
        swaying();
        Kit.end("DeedsTest");
    }

    private static void years() {
        Kit k = Kit.of(TextsTest.TOWN);
        k.refused("year(0)", k.it.year(0), 5);
        k.refused("year(-1)", k.it.year(-1), 5);
        k.refused("year(100)", k.it.year(100), 5);
        k.fine("year(1)", k.it.year(1), 1);
        k.fine("year 1", k.it.many(5), 1);
        k.fine("year(3): wood, song, nothing", k.it.year(3), 66);
        k.fine("year 4", k.it.many(5), 4);
        k.fine("unmade", k.it.many(7), 67);
        k.fine("nothing named", k.it.year(99), 0);
        for (int i = 0; i < 99; i++) {
            k.fine("year(99)", k.it.year(99), 0);
        }
        k.fine("year 9,904", k.it.many(5), 9904);
        k.refused("year(96)", k.it.year(96), 7);
        k.refused("year(100)", k.it.year(100), 5);
        k.fine("still year 9,904", k.it.many(5), 9904);
        k.fine("year(95)", k.it.year(95), 0);
        k.refused("beyond 9,999", k.it.year(1), 7);
        k.fine("later is not bound by it", k.it.later(9), 12);
        Kit fall = Kit.of("thing a;thing b;makes b from a;voter v;voter w;hates v a 1;hates w b 1;");
        fall.fine("what has fallen is not named", fall.it.year(2), 1);
        Kit spared = Kit.of("thing a exempt;thing b;voter v;hates v a 9;hates v b 1;");
        spared.fine("what is exempt is not named", spared.it.year(2), 2);
    }

    private static void makings() {
        Kit k = Kit.of(TextsTest.TOWN);
        k.refused("unmake(8)", k.it.unmake(8), 2);
        k.refused("unmake(-1)", k.it.unmake(-1), 2);
        k.refused("unmake an exempt one", k.it.unmake(3), 9);
        k.fine("unmake wood", k.it.unmake(1), 18);
        k.refused("unmake wood again", k.it.unmake(1), 9);
        k.fine("unmake what has fallen", k.it.unmake(4), 0);
        k.fine("unmake cart: boat too", k.it.unmake(7), 160);
        k.fine("no year goes by", k.it.many(5), 0);
        k.refused("remake(8)", k.it.remake(8), 2);
        k.refused("remake(-1)", k.it.remake(-1), 2);
        k.refused("remake what stands", k.it.remake(0), 9);
        k.refused("remake what has fallen", k.it.remake(5), 9);
        k.fine("remake wood: boat too, bridge not", k.it.remake(1), 34);
        k.fine("remake bridge", k.it.remake(4), 16);
        k.fine("remake cart", k.it.remake(7), 128);
        k.fine("all stands", k.it.many(6), 255);
        k.fine("unmake lamp", k.it.unmake(2), 4);
        k.fine("exempt lamp", k.it.exempt(2, true));
        k.fine("an exempt one can be remade", k.it.remake(2), 4);
    }

    private static void exemptions() {
        Kit k = Kit.of(TextsTest.TOWN);
        k.refused("exempt(8)", k.it.exempt(8, true), 2);
        k.refused("exempt(-1)", k.it.exempt(-1, false), 2);
        k.refused("it is so", k.it.exempt(3, true), 9);
        k.refused("it is not", k.it.exempt(0, false), 9);
        k.fine("exempt(0)", k.it.exempt(0, true));
        k.fine("exempt", k.it.many(9), 9);
        k.fine("not any more", k.it.exempt(3, false));
        k.fine("exempt", k.it.many(9), 1);
        k.fine("oil can be unmade", k.it.unmake(3), 12);
        k.fine("what is unmade can be exempt", k.it.exempt(3, true));
    }

    private static void grudgesAndLaws() {
        Kit k = Kit.of(TextsTest.TOWN);
        k.refused("grudge(3)", k.it.grudge(3, 0, 10), 2);
        k.refused("grudge(-1)", k.it.grudge(-1, 0, 1), 2);
        k.refused("grudge of 8", k.it.grudge(0, 8, 1), 2);
        k.refused("grudge of -1", k.it.grudge(0, -1, 1), 2);
        k.refused("grudge 10", k.it.grudge(0, 0, 10), 5);
        k.refused("grudge -1", k.it.grudge(0, 0, -1), 5);
        k.fine("as it was", k.it.hate(0, 0), 3);
        k.fine("vote()", k.it.vote(), 0);
        k.fine("bob: song 9", k.it.grudge(1, 6, 9));
        k.fine("vote() by it", k.it.vote(), 1);
        k.fine("cid: wood 0", k.it.grudge(2, 1, 0));
        k.fine("year by it", k.it.year(1), 1);
        k.refused("rule(3)", k.it.rule(3), 5);
        k.refused("rule(-1)", k.it.rule(-1), 5);
        k.fine("rule(2)", k.it.rule(2));
        k.fine("law", k.it.many(4), 2);
        k.fine("rule(2) again", k.it.rule(2));
    }

    private static void whatWasFoundByOtherLawsCountsNoMore() {
        Kit k = Kit.of("thing a;thing b;voter u;voter v;voter w;hates u a 1;hates v a 1;hates w b 9;");
        k.fine("law 0 names a", k.it.later(1), 2);
        k.fine("rule(1)", k.it.rule(1));
        k.fine("law 1 names b", k.it.later(1), 1);
        k.fine("rule(0)", k.it.rule(0));
        k.fine("law 0 names a again", k.it.later(1), 2);
        k.fine("u hates b", k.it.grudge(0, 1, 2));
        k.fine("b has two votes", k.it.later(1), 1);
        k.fine("u hates b no more", k.it.grudge(0, 1, 0));
        k.fine("a has two votes", k.it.later(1), 2);
    }

    private static void votesByLaws() {
        Kit none = Kit.of("thing a;voter v;");
        none.refused("none has a vote", none.it.vote(), 8);
        none.refused("by law 1", none.it.voteBy(1), 8);
        none.refused("by law 2", none.it.voteBy(2), 8);
        none.refused("voteBy(3)", none.it.voteBy(3), 5);
        none.refused("voteBy(-1)", none.it.voteBy(-1), 5);
        none.refused("votes(1)", none.it.votes(1), 2);
        none.refused("votes(-1)", none.it.votes(-1), 2);
        none.fine("votes(0)", none.it.votes(0), 0);
        Kit k = Kit.of("thing a;thing b;thing c;thing d exempt;voter u;voter v;voter w;"
            + "hates u a 2;hates u b 2;hates v c 9;hates w c 1;hates w b 1;hates w d 9;hates v b 7;");
        k.fine("law 0: one each, the first", k.it.vote(), 0);
        k.fine("law 1: b has ten, c ten, the first", k.it.voteBy(1), 1);
        k.fine("votes of a", k.it.votes(0), 1);
        k.fine("votes of b: the first of several", k.it.votes(1), 1);
        k.fine("votes of c", k.it.votes(2), 1);
        k.fine("votes of an exempt one", k.it.votes(3), 0);
    }

    private static void votesByRounds() {
        Kit k = Kit.of("thing a;thing b;thing c;thing d;law 2;voter p;voter q;voter r;voter s;voter t;"
            + "hates p a 9;hates q a 9;hates r b 9;hates r d 8;hates s c 9;hates s d 8;hates t d 1;");
        // a 2, b 1, c 1, d 1: d is out; then c, its voter has none left; then b
        k.fine("vote()", k.it.vote(), 0);
        k.fine("votes of d, in the first round", k.it.votes(3), 1);
        k.fine("votes of c, in the second", k.it.votes(2), 1);
        k.fine("votes of b, in the third", k.it.votes(1), 1);
        k.fine("votes of a, in the last", k.it.votes(0), 2);
        k.fine("t hates nothing", k.it.grudge(4, 3, 0));
        // a 2, b 1, c 1, d 0: c is out; a 2, b 1, d 1: d is out; then b
        k.fine("vote()", k.it.vote(), 0);
        k.fine("votes of c", k.it.votes(2), 1);
        k.fine("votes of d, that had none at first", k.it.votes(3), 1);
        k.fine("votes of b", k.it.votes(1), 1);
        k.fine("one has all from the first", k.it.grudge(2, 1, 0));
        k.it.grudge(2, 3, 0);
        k.it.grudge(3, 2, 0);
        k.it.grudge(3, 3, 0);
        k.fine("vote()", k.it.vote(), 0);
        k.fine("votes of a", k.it.votes(0), 2);
        k.fine("votes of b", k.it.votes(1), 0);
    }

    private static void swaying() {
        Kit k = Kit.of(TextsTest.TOWN);
        k.refused("sway(3)", k.it.sway(3), 2);
        k.refused("sway(-1)", k.it.sway(-1), 2);
        k.fine("ann, law 0", k.it.sway(0), 3);
        k.fine("rule(1)", k.it.rule(1));
        k.fine("bob, law 1", k.it.sway(1), 247);
        k.fine("rule(2)", k.it.rule(2));
        k.refused("law 2", k.it.sway(0), 9);
        k.refused("2 ahead of 9", k.it.sway(3), 2);
        Kit alone = Kit.of("thing a;thing b exempt;thing c;voter v;");
        alone.fine("alone", alone.it.sway(0), 5);
        Kit strong = Kit.of("law 1;thing a;thing b;thing c;voter u;voter v;voter w;hates u b 9;hates v b 1;");
        strong.fine("9 can't be more than 10, nor as many and first", strong.it.sway(2), 2);
        strong.it.grudge(1, 1, 0);
        strong.fine("as many as the first", strong.it.sway(2), 3);
    }
}
