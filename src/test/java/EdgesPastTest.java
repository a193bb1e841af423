/** Promises 45 to 51: what was, by sets of none and of all, and by orders of which there are none, one and all. */
final class EdgesPastTest {
    private static final int LEAST = Edges.LEAST;
    private static final int MOST = Edges.MOST;
    private static final int[] NO_SETS = {LEAST, LEAST + 1, LEAST + 255, -256, -2, -1, 256, 257, 511, 512, 4095, 4096, 65536, MOST - 1, MOST};
    private static final int[] NO_THINGS = {LEAST, LEAST + 1, -12, -2, -1, 8, 9, 11, 12, 13, 31, 32, 256, MOST - 1, MOST};

    public static void main(String[] args) {
        wasItSets();
        wasItJustATold();
        tellsRefused();
        tellsOfTwoToTwelve();
        tellsTheLeastGreater();
        sureRefused();
        sureOfOneToTwelve();
        sureByBestLooks();
        historiesOfNoneToTwelve();
        firsts();
        clashes();
        oddsRefused();
        oddsOfOrders();
        pastChangesNothing();
        Kit.end("EdgesPastTest");
    }

    private static String things(int many) {
        StringBuilder b = new StringBuilder();
        for (int t = 0; t < many; t++) {
            b.append("thing ").append((char) ('a' + t)).append(';');
        }
        return b.toString();
    }

    private static String ahead(int first, int second) {
        return new StringBuilder("ahead ").append((char) ('a' + first)).append(' ').append((char) ('a' + second)).append(';').toString();
    }

    // ---- 45: wasIt

    /** 5: no such set; of no THINGS is one. */
    private static void wasItSets() {
        for (int set : NO_SETS) {
            Edges.refused("wasIt(" + set + ")", Edges::rich, x -> x.wasIt(set), 5);
        }
        for (int set : new int[] {LEAST, -1, 4096, 4097, MOST}) {
            Edges.refused("wasIt(" + set + ") of twelve", Edges::full, x -> x.wasIt(set), 5);
        }
        for (int set : new int[] {LEAST, -1, 1, 2, MOST}) {
            Edges.refused("wasIt(" + set + ") of none", Edges::bare, x -> x.wasIt(set), 5);
        }
        Edges.asks("wasIt(0) of none", Edges::bare, x -> x.wasIt(0), 0);
        Edges.asks("wasIt(0): each falls itself", Edges::rich, x -> x.wasIt(0), 0);
        Edges.asks("wasIt(255)", Edges::rich, x -> x.wasIt(255), 0);
        Edges.asks("wasIt(4095) of twelve", Edges::full, x -> x.wasIt(4095), 0);
        Edges.asks("wasIt(2048) of twelve", Edges::full, x -> x.wasIt(2048), 2048);
    }

    private static void wasItJustATold() {
        int[] falls = {1 | 32 | 128, 0, 4, 12, 0, 32, 64, 32 | 128};
        for (int t = 0; t < 8; t++) {
            if (falls[t] != 0) {
                int set = falls[t];
                int due = 1 << t;
                Edges.asks("wasIt(" + set + ")", Edges::rich, x -> x.wasIt(set), due);
            }
        }
        // what does not STAND now, and what just more or less falls with
        for (int set : new int[] {2, 16, 18, 1, 33, 129, 8, 128, 160 | 2}) {
            int due = 0;
            Edges.asks("wasIt(" + set + ")", Edges::rich, x -> x.wasIt(set), due);
        }
        Kit k = EdgesFallsTest.chain();
        for (int t = 0; t < 12; t++) {
            k.fine("wasIt of a chain", k.it.wasIt(4095 & -(1 << t)), 1 << t);
        }
    }

    // ---- 46: tells

    /** 5: no such set, fewer than two, some that do not STAND. */
    private static void tellsRefused() {
        for (int set : NO_SETS) {
            Edges.refused("tells(" + set + ")", Edges::rich, x -> x.tells(set), 5);
        }
        for (int set : new int[] {0, 1, 4, 8, 32, 64, 128}) {
            Edges.refused("tells(" + set + "): fewer than two", Edges::rich, x -> x.tells(set), 5);
        }
        for (int set : new int[] {2, 16, 3, 17, 18, 255, 254, 19}) {
            Edges.refused("tells(" + set + "): some that do not STAND", Edges::rich, x -> x.tells(set), 5);
        }
        for (int t = 0; t < 12; t++) {
            int set = 1 << t;
            Edges.refused("tells of one of twelve", Edges::full, x -> x.tells(set), 5);
        }
        for (int set : new int[] {LEAST, -1, 4096, 4099, MOST}) {
            Edges.refused("tells(" + set + ") of twelve", Edges::full, x -> x.tells(set), 5);
        }
        for (int set : new int[] {LEAST, -1, 0, 1, 3, MOST}) {
            Edges.refused("tells(" + set + ") of none", Edges::bare, x -> x.tells(set), 5);
        }
    }

    private static void tellsOfTwoToTwelve() {
        Kit alone = Kit.of(things(12));
        for (int a = 0; a < 12; a++) {
            for (int b = a + 1; b < 12; b++) {
                alone.fine("of two the first", alone.it.tells(1 << a | 1 << b), a);
            }
        }
        alone.fine("of twelve the first", alone.it.tells(4095), 0);
        alone.fine("of ten the first", alone.it.tells(4092), 2);
        Kit chain = EdgesFallsTest.chain();
        // the k-th falls with those up to it
        for (int many = 2; many <= 12; many++) {
            chain.fine("the half of " + many, chain.it.tells((1 << many) - 1), many / 2 - 1);
        }
        Edges.asks("tells(5): nail, lamp", Edges::rich, x -> x.tells(5), 0);
        Edges.asks("tells(237) of all that STANDS", Edges::rich, x -> x.tells(237), 5);
    }

    /** So that the greater of both sets that are left is the least; of several the first. */
    private static void tellsTheLeastGreater() {
        // g is made from d, e and f, h from d and e: by g three are told from three, by h two from four
        Kit k = Kit.of(things(8) + "makes g from d e f;makes h from d e;");
        k.fine("of six", k.it.tells(63), 6);
        k.fine("of d, e and a: h is behind g", k.it.tells(1 | 8 | 16), 0);
        k.fine("of a, b, d, e", k.it.tells(1 | 2 | 8 | 16), 6);
        k.fine("of d, e: both fall with g and h", k.it.tells(8 | 16), 3);
        k.it.exempt(6, true);
        k.fine("EXEMPT ones are looked at, too", k.it.tells(63), 6);
        k.it.exempt(3, true);
        k.fine("and may be in the set", k.it.tells(63), 6);
        // by what STANDS now, not by what was told ahead
        k.it.exempt(6, false);
        k.it.unmake(6);
        k.fine("g is no more: h is left", k.it.tells(63), 7);
        k.fine("sure without g", k.it.sure(63), 4);
        k.it.unmake(7);
        k.fine("h is no more: one after another", k.it.tells(63), 0);
        k.fine("sure without g and h", k.it.sure(63), 5);
        k.it.remake(6);
        k.fine("g again", k.it.tells(63), 6);
        k.fine("sure with g: three and three", k.it.sure(63), 3);
    }

    // ---- 47: sure

    /** 5: no such set, none, some that do not STAND. */
    private static void sureRefused() {
        for (int set : NO_SETS) {
            Edges.refused("sure(" + set + ")", Edges::rich, x -> x.sure(set), 5);
        }
        for (int set : new int[] {0, 2, 16, 3, 17, 18, 255, 254, 19}) {
            Edges.refused("sure(" + set + "): none, or some that do not STAND", Edges::rich, x -> x.sure(set), 5);
        }
        for (int set : new int[] {LEAST, -1, 0, 4096, 4097, MOST}) {
            Edges.refused("sure(" + set + ") of twelve", Edges::full, x -> x.sure(set), 5);
        }
        for (int set : new int[] {LEAST, -1, 0, 1, MOST}) {
            Edges.refused("sure(" + set + ") of none", Edges::bare, x -> x.sure(set), 5);
        }
    }

    /** How many looks at worst (0 for one). */
    private static void sureOfOneToTwelve() {
        Kit alone = Kit.of(things(12));
        Kit chain = EdgesFallsTest.chain();
        int[] half = {0, 0, 1, 2, 2, 3, 3, 3, 3, 4, 4, 4, 4};
        for (int many = 1; many <= 12; many++) {
            int set = (1 << many) - 1;
            alone.fine("one after another, of " + many, alone.it.sure(set), many - 1);
            alone.fine("the last " + many, alone.it.sure(set << 12 - many), many - 1);
            chain.fine("by halves, of " + many, chain.it.sure(set), half[many]);
        }
        for (int t = 0; t < 12; t++) {
            alone.fine("one", alone.it.sure(1 << t), 0);
        }
        for (int t : new int[] {0, 2, 3, 5, 6, 7}) {
            int set = 1 << t;
            Edges.asks("sure of one", Edges::rich, x -> x.sure(set), 0);
        }
    }

    /** By best looks: the look that leaves the least is not always the first of the best, but no other takes fewer. */
    private static void sureByBestLooks() {
        Kit pairs = Kit.of(things(6) + "makes e from a b;makes f from a c;");
        pairs.fine("four by two", pairs.it.sure(15), 2);
        Kit one = Kit.of(things(5) + "makes e from a b;");
        one.fine("four by e, and then each", one.it.sure(15), 2);
        one.fine("three", one.it.sure(7), 2);
        Kit eight = Kit.of(things(11) + "makes i from a b c d;makes j from a b e f;makes k from a c e g;");
        eight.fine("eight by three", eight.it.sure(255), 3);
        eight.fine("with those that are made from them", eight.it.sure(2047), 4);
        Edges.asks("sure(237)", Edges::rich, x -> x.sure(237), 3);
        // what falls with all of them, or with none, tells nothing
        Kit all = Kit.of(things(6) + "makes f from a b c d e;");
        all.fine("one after another, of five", all.it.sure(31), 4);
        all.fine("of four", all.it.sure(15), 3);
        all.fine("with f: it falls with each", all.it.sure(63), 5);
        Kit two = Kit.of(things(4) + "makes c from a d;makes b from a c;makes c from b;");
        two.fine("b and c fall with a and d", two.it.sure(15), 3);
        Kit last = Kit.of(things(6) + "makes d from a f;makes a from e;makes f from a b c;");
        last.fine("b to e", last.it.sure(30), 3);
        last.fine("all six", last.it.sure(63), 4);
    }

    // ---- 48 to 50: histories, firsts, clash

    /** 1 without THINGS; 0 if there is none; all orders of twelve. */
    private static void historiesOfNoneToTwelve() {
        long orders = 1;
        for (int many = 0; many <= 12; many++) {
            orders *= Math.max(1, many);
            Kit k = Kit.of(things(many));
            k.fine("histories() of " + many, k.it.histories(), orders);
            k.fine("firsts() of " + many, k.it.firsts(), (1 << many) - 1);
            k.fine("clash() of " + many, k.it.clash(), 0);
            StringBuilder row = new StringBuilder(things(many));
            for (int t = 1; t < many; t++) {
                row.append(ahead(t - 1, t));
            }
            Kit one = Kit.of(row.toString());
            one.fine("histories() of a row", one.it.histories(), 1);
            one.fine("firsts() of a row", one.it.firsts(), many > 0 ? 1 : 0);
            one.fine("clash() of a row", one.it.clash(), 0);
            if (many >= 2) {
                Kit ring = Kit.of(row.append(ahead(many - 1, 0)).toString());
                ring.fine("histories() of a ring", ring.it.histories(), 0);
                ring.fine("firsts() of a ring", ring.it.firsts(), 0);
                ring.fine("clash() of a ring", ring.it.clash(), 1);
            }
        }
        Edges.asks("histories() of nothing", Edges::bare, Unmade::histories, 1);
        Edges.asks("histories() of rich: unmade ones, too", Edges::rich, Unmade::histories, 6720);
    }

    /** The THINGS that can be the first in such an order; none, if there is no order. */
    private static void firsts() {
        Edges.asks("firsts() of nothing", Edges::bare, Unmade::firsts, 0);
        Edges.asks("firsts() of rich", Edges::rich, Unmade::firsts, 255 & ~(16 | 32 | 128));
        Kit k = Kit.of(things(4) + ahead(1, 0) + ahead(2, 0) + ahead(3, 1));
        k.fine("two", k.it.firsts(), 12);
        Kit ring = Kit.of(things(4) + ahead(1, 0) + ahead(0, 1));
        ring.fine("others can't, either, where there is no order", ring.it.firsts(), 0);
        Kit last = Kit.of(things(12) + "ahead l a;ahead l b;ahead l c;ahead l d;ahead l e;ahead l f;ahead l g;ahead l h;ahead l i;ahead l j;ahead l k;");
        last.fine("the last alone", last.it.firsts(), 2048);
        last.fine("orders of the others", last.it.histories(), 39916800L);
    }

    /** The fewest AHEADS that must be untrue, of those told, each but once. */
    private static void clashes() {
        Edges.asks("clash() of nothing", Edges::bare, Unmade::clash, 0);
        Edges.asks("clash() of rich", Edges::rich, Unmade::clash, 0);
        for (int many = 2; many <= 8; many++) {
            StringBuilder b = new StringBuilder(things(many));
            for (int s = 0; s < many; s++) {
                for (int t = 0; t < many; t++) {
                    b.append(s == t ? "" : ahead(s, t));
                }
            }
            Kit k = Kit.of(b.toString());
            k.fine("both ways of " + many, k.it.clash(), many * (many - 1) / 2);
        }
        Kit twice = Kit.of(things(2) + ahead(0, 1) + ahead(0, 1) + ahead(0, 1) + ahead(1, 0));
        twice.fine("told thrice and once", twice.it.clash(), 1);
        Kit two = Kit.of(things(6) + ahead(0, 1) + ahead(1, 0) + ahead(2, 3) + ahead(3, 4) + ahead(4, 2));
        two.fine("two rings", two.it.clash(), 2);
        Kit shared = Kit.of(things(3) + ahead(0, 1) + ahead(1, 0) + ahead(1, 2) + ahead(2, 0));
        shared.fine("two rings by one AHEAD", shared.it.clash(), 1);
    }

    // ---- 51: aheadOdds

    /** 2; 8: there is no history; 9: one and itself; 9 ahead of 8. */
    private static void oddsRefused() {
        for (int t : NO_THINGS) {
            for (int other : new int[] {t, 0, 7}) {
                Edges.refusedSo("aheadOdds(" + t + ", " + other + ")", Edges::rich, x -> x.aheadOdds(t, other), 2);
                Edges.refusedSo("aheadOdds(" + other + ", " + t + ")", Edges::rich, x -> x.aheadOdds(other, t), 2);
            }
        }
        Edges.refusedSo("aheadOdds(12, 0) of twelve", Edges::full, x -> x.aheadOdds(12, 0), 2);
        Edges.refusedSo("aheadOdds(0, 12) of twelve", Edges::full, x -> x.aheadOdds(0, 12), 2);
        Edges.refusedSo("aheadOdds(0, 0) of none", Edges::bare, x -> x.aheadOdds(0, 0), 2);
        for (int t = 0; t < 8; t++) {
            int thing = t;
            Edges.refusedSo("aheadOdds of one and itself", Edges::rich, x -> x.aheadOdds(thing, thing), 9);
        }
        String ring = things(3) + ahead(0, 1) + ahead(1, 0);
        for (int t = 0; t < 3; t++) {
            for (int o = 0; o < 3; o++) {
                int thing = t;
                int other = o;
                int due = t == o ? 9 : 8;
                Edges.refusedSo("aheadOdds(" + t + ", " + o + ") without history", () -> Kit.of(ring), x -> x.aheadOdds(thing, other), due);
            }
        }
        Edges.refusedSo("aheadOdds(0, 3) without history: 2 ahead of 8", () -> Kit.of(ring), x -> x.aheadOdds(0, 3), 2);
    }

    private static void odds(Kit k, int thing, int other, long over, long under) {
        k.fine("aheadOdds(" + thing + ", " + other + ")", k.it.aheadOdds(thing, other));
        Kit.due("top of aheadOdds(" + thing + ", " + other + ")", k.it.top(), over);
        Kit.due("bottom of aheadOdds(" + thing + ", " + other + ")", k.it.bottom(), under);
    }

    /** How many of HISTORIES have one THING ahead of another: none, all, and between. */
    private static void oddsOfOrders() {
        Kit row = Kit.of(things(12) + ahead(0, 11) + ahead(11, 5));
        odds(row, 0, 11, 1, 1);
        odds(row, 11, 0, 0, 1);
        odds(row, 0, 5, 1, 1);
        odds(row, 5, 0, 0, 1);
        odds(row, 1, 2, 1, 2);
        odds(row, 1, 11, 1, 2);
        odds(row, 1, 0, 1, 4);
        odds(row, 1, 5, 3, 4);
        // the first of many: one by so many
        for (int many = 2; many <= 12; many++) {
            StringBuilder b = new StringBuilder(things(many));
            for (int t = 2; t < many; t++) {
                b.append(ahead(1, t));
            }
            Kit k = Kit.of(b.toString());
            odds(k, 0, 1, 1, many);
            odds(k, 1, 0, many - 1, many);
        }
        Kit rich = Edges.rich();
        // wood, ahead of boat, is late in a fifth of the orders against bridge, that nail is ahead of
        odds(rich, 1, 4, 4, 5);
        odds(rich, 4, 1, 1, 5);
        odds(rich, 4, 0, 0, 1);
    }

    private static void pastChangesNothing() {
        Edges.asks("wasIt", Edges::full, x -> x.wasIt(1), 1);
        Edges.asks("tells", Edges::full, x -> x.tells(4095) >= 0 ? 1 : 0, 1);
        Edges.asks("sure", Edges::full, x -> x.sure(4095) > 0 ? 1 : 0, 1);
        Edges.asks("histories", Edges::full, Unmade::histories, 479001600L);
        Edges.asks("firsts", Edges::full, Unmade::firsts, 4095);
        Edges.asks("clash", Edges::full, Unmade::clash, 0);
        Edges.asksSo("aheadOdds", Edges::full, x -> x.aheadOdds(0, 11), Edges.Look.FRACTION);
        Edges.asksSo("aheadOdds", Edges::rich, x -> x.aheadOdds(1, 2), Edges.Look.FRACTION);
    }
}
