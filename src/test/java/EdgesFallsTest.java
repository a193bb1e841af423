/** Promises 29 to 34: what falls, at the first and the last YEAR, of nothing and of all. */
final class EdgesFallsTest {
    private static final int LEAST = Edges.LEAST;
    private static final int MOST = Edges.MOST;
    private static final int[] NO_THINGS = {LEAST, LEAST + 1, -12, -2, -1, 8, 9, 11, 12, 13, 31, 32, 256, MOST - 1, MOST};
    private static final int[] NO_WORKS = {LEAST, LEAST + 1, -6, -2, -1, 3, 4, 5, 6, 7, 32, 256, MOST - 1, MOST};

    public static void main(String[] args) {
        refusedThings();
        itDoesNotStand();
        fallsAndLosses();
        fallsOfAll();
        keystones();
        goneByYears();
        endsInYears();
        laterYears();
        Kit.end("EdgesFallsTest");
    }

    /** Twelve, each made from the one ahead of it. */
    static Kit chain() {
        StringBuilder b = new StringBuilder("thing a worth 99;");
        for (char c = 'b'; c <= 'l'; c++) {
            b.append("thing ").append(c).append(" worth 99;makes ").append(c).append(" from ").append((char) (c - 1)).append(';');
        }
        return Kit.of(b.toString());
    }

    /** So many, the first hated the most, the next ones less, and one YEAR after another by more voters. */
    static Kit queue(int many) {
        StringBuilder b = new StringBuilder();
        for (int t = 0; t < many; t++) {
            b.append("thing ").append((char) ('a' + t)).append(';');
        }
        b.append("voter u;voter v;law 1;");
        for (int t = 0; t < many; t++) {
            // 12 and less, by two
            int much = 12 - t;
            b.append("hates u ").append((char) ('a' + t)).append(' ').append(Math.min(9, much)).append(';');
            if (much > 9) {
                b.append("hates v ").append((char) ('a' + t)).append(' ').append(much - 9).append(';');
            }
        }
        b.append("work first needs a;work last needs ").append((char) ('a' + many - 1)).append(';');
        return Kit.of(b.toString());
    }

    // ---- STATUS

    private static void refusedThings() {
        for (int t : NO_THINGS) {
            Edges.refused("falls(" + t + ")", Edges::rich, x -> x.falls(t), 2);
            Edges.refused("loss(" + t + ")", Edges::rich, x -> x.loss(t), 2);
            Edges.refused("goneBy(" + t + ")", Edges::rich, x -> x.goneBy(t), 2);
        }
        Edges.refused("falls(12) of twelve", Edges::full, x -> x.falls(12), 2);
        Edges.refused("loss(12) of twelve", Edges::full, x -> x.loss(12), 2);
        Edges.refused("goneBy(12) of twelve", Edges::full, x -> x.goneBy(12), 2);
        Edges.refused("falls(0) of none", Edges::bare, x -> x.falls(0), 2);
        Edges.refused("loss(0) of none", Edges::bare, x -> x.loss(0), 2);
        Edges.refused("goneBy(0) of none", Edges::bare, x -> x.goneBy(0), 2);
        for (int w : NO_WORKS) {
            Edges.refused("ends(" + w + ")", Edges::rich, x -> x.ends(w), 2);
        }
        Edges.refused("ends(6) of six", Edges::full, x -> x.ends(6), 2);
        Edges.refused("ends(0) of none", Edges::bare, x -> x.ends(0), 2);
    }

    /** 9: it does not STAND: UNMADE, or FALLEN. */
    private static void itDoesNotStand() {
        Edges.refused("falls of what is UNMADE", Edges::rich, x -> x.falls(1), 9);
        Edges.refused("loss of what is UNMADE", Edges::rich, x -> x.loss(1), 9);
        Edges.refused("falls of what has FALLEN", Edges::rich, x -> x.falls(4), 9);
        Edges.refused("loss of what has FALLEN", Edges::rich, x -> x.loss(4), 9);
    }

    // ---- 29 to 31

    /** What STANDS now and would not (it itself too), EXEMPT ones, too. */
    private static void fallsAndLosses() {
        int[] falls = {1 | 32 | 128, 0, 4, 12, 0, 32, 64, 32 | 128};
        int[] loss = {2 + 8 + 6, 0, 5, 9, 0, 8, 1, 14};
        for (int t = 0; t < 8; t++) {
            int thing = t;
            if (falls[t] != 0) {
                Edges.asks("falls(" + t + ")", Edges::rich, x -> x.falls(thing), falls[t]);
                Edges.asks("loss(" + t + ")", Edges::rich, x -> x.loss(thing), loss[t]);
            }
        }
        Edges.asks("keystone()", Edges::rich, Unmade::keystone, 0);
        Kit none = Kit.of("thing a worth 0;thing b worth 0;makes b from a;");
        none.fine("falls", none.it.falls(0), 3);
        none.fine("worth nothing", none.it.loss(0), 0);
    }

    private static void fallsOfAll() {
        Kit k = chain();
        for (int t = 0; t < 12; t++) {
            k.fine("falls(" + t + ")", k.it.falls(t), 4095 & -(1 << t));
            k.fine("loss(" + t + ")", k.it.loss(t), 99 * (12 - t));
        }
        k.fine("keystone()", k.it.keystone(), 0);
        Kit full = Edges.full();
        full.fine("the last alone", full.it.falls(11), 2048);
        full.fine("its worth", full.it.loss(11), 99);
    }

    /** The THING that STANDS with the greatest LOSS (8: nothing STANDS). */
    private static void keystones() {
        Edges.refused("keystone() of nothing", Edges::bare, Unmade::keystone, 8);
        Edges.refused("keystone() of a ring", () -> Kit.of("thing a;thing b;makes a from b;makes b from a;"), Unmade::keystone, 8);
        Edges.refused("keystone() of all unmade", () -> {
            Kit k = Kit.of("thing a;thing b exempt;makes b from a;");
            k.it.unmake(0);
            return k;
        }, Unmade::keystone, 8);
        for (int t = 0; t < 12; t++) {
            StringBuilder b = new StringBuilder();
            for (int o = 0; o < 12; o++) {
                b.append("thing ").append((char) ('a' + o)).append(o == t ? " worth 99;" : " worth 98;");
            }
            Kit k = Kit.of(b.toString());
            k.fine("the greatest at " + t, k.it.keystone(), t);
        }
        Kit zero = Kit.of("thing a worth 0;");
        zero.fine("worth nothing", zero.it.keystone(), 0);
        Kit sum = Kit.of("thing a worth 4;thing b worth 0;thing c worth 5;makes c from b;");
        sum.fine("by what falls with it: b, as great as c, is ahead of it", sum.it.keystone(), 1);
        sum.it.unmake(1);
        sum.fine("those that STAND", sum.it.keystone(), 0);
    }

    // ---- 32 to 34

    /** In how many YEARS (0: now; 99 at most) a THING does not STAND first (8: not in 99). */
    private static void goneByYears() {
        for (int many = 1; many <= 12; many++) {
            Kit k = queue(many);
            for (int t = 0; t < many; t++) {
                k.fine("goneBy(" + t + ") of " + many, k.it.goneBy(t), t + 1);
            }
        }
        Edges.asks("goneBy of what is UNMADE", Edges::rich, x -> x.goneBy(1), 0);
        Edges.asks("goneBy of what has FALLEN", Edges::rich, x -> x.goneBy(4), 0);
        Edges.asks("goneBy of the first", Edges::rich, x -> x.goneBy(0), 1);
        Edges.asks("goneBy of what falls with it", Edges::rich, x -> x.goneBy(5), 1);
        Edges.refused("goneBy of what is EXEMPT", Edges::rich, x -> x.goneBy(3), 8);
        Edges.refused("goneBy of what nobody hates", Edges::rich, x -> x.goneBy(2), 8);
        Kit spared = Kit.of("thing a;thing b exempt;makes b from a;voter v;hates v a 1;");
        spared.fine("an EXEMPT one falls", spared.it.goneBy(1), 1);
        Kit ring = Kit.of("thing a;thing b;makes a from b;makes b from a;");
        ring.fine("never stood", ring.it.goneBy(0), 0);
    }

    private static void endsInYears() {
        for (int many = 1; many <= 12; many++) {
            Kit k = queue(many);
            k.fine("the first of " + many, k.it.ends(0), 1);
            k.fine("the last of " + many, k.it.ends(1), many);
        }
        Edges.asks("ends of what can't be DONE", Edges::rich, x -> x.ends(1), 0);
        Edges.asks("ends of trade", Edges::rich, x -> x.ends(2), 1);
        Edges.refused("ends of evening", Edges::rich, x -> x.ends(0), 8);
        Kit both = Kit.of("thing a;thing b;thing c;voter v;hates v a 2;hates v b 9;work w needs a b c;work x needs c a;work y needs c;");
        both.fine("the first of its things", both.it.ends(0), 1);
        both.fine("the second", both.it.ends(1), 2);
        both.refused("never", both.it.ends(2), 8);
    }

    /** What STANDS in so many YEARS (0 to 99), others 5. */
    private static void laterYears() {
        for (int n : new int[] {LEAST, LEAST + 1, -99, -2, -1, 100, 101, 128, 256, 9999, MOST - 1, MOST}) {
            Edges.refused("later(" + n + ")", Edges::rich, x -> x.later(n), 5);
            Edges.refused("later(" + n + ") of nothing", Edges::bare, x -> x.later(n), 5);
            Edges.refused("later(" + n + ") of all", Edges::full, x -> x.later(n), 5);
        }
        for (int many = 1; many <= 12; many++) {
            Kit k = queue(many);
            for (int n = 0; n <= 99; n++) {
                k.fine("later(" + n + ") of " + many, k.it.later(n), (1 << many) - 1 & -1 << Math.min(n, many));
            }
        }
        Edges.asks("later(0)", Edges::rich, x -> x.later(0), 237);
        Edges.asks("later(1)", Edges::rich, x -> x.later(1), 237 & ~(1 | 32 | 128));
        Edges.asks("later(99)", Edges::rich, x -> x.later(99), 237 & ~(1 | 32 | 128));
        Edges.asks("later(99) of nothing", Edges::bare, x -> x.later(99), 0);
    }
}
