/** Promises 19 to 24: what is done, at the edges of its numbers, where it can't be, and what it leaves as it was. */
final class EdgesDeedsTest {
    private static final int LEAST = Edges.LEAST;
    private static final int MOST = Edges.MOST;
    private static final int[] NO_THINGS = {LEAST, LEAST + 1, -12, -2, -1, 8, 9, 11, 12, 13, 31, 32, 33, 256, MOST - 1, MOST};

    public static void main(String[] args) {
        yearsOneToNinetyNine();
        yearsUpToNineThousand();
        yearsNamed();
        unmakeRefused();
        unmakeStoodAndDoesNot();
        remakeRefused();
        remakeStandsAndDidNot();
        exemptRefused();
        exemptOrNot();
        grudgeRefused();
        grudgeByZeroToNine();
        rules();
        seenInTheNextVote();
        eachNamedInTurn();
        takenBackByItsContrary();
        Kit.end("EdgesDeedsTest");
    }

    /** A scene in YEAR 9,990, with something that can be named still. */
    private static Kit late() {
        Kit k = Kit.of("thing a;thing b worth 3;voter v;hates v a 2;hates v b 9;work w needs a;");
        k.centuries("year 9;");
        for (int n = 0; n < 100; n++) {
            k.it.year(99);
        }
        k.it.year(90);
        k.it.remake(0);
        k.it.remake(1);
        return k;
    }

    private static Kit lateBy(int more) {
        Kit k = late();
        k.it.year(more);
        return k;
    }

    // ---- 19: year

    /** So many YEARS (1 to 99), others 5. */
    private static void yearsOneToNinetyNine() {
        for (int n : new int[] {LEAST, LEAST + 1, -99, -1, 0, 100, 101, 128, 256, 9999, 10000, MOST - 1, MOST}) {
            Edges.refused("year(" + n + ")", Edges::rich, x -> x.year(n), 5);
            Edges.refused("year(" + n + ") of nothing", Edges::bare, x -> x.year(n), 5);
            Edges.refused("year(" + n + ") in 9,990: 5 ahead of 7", EdgesDeedsTest::late, x -> x.year(n), 5);
        }
        for (int n = 1; n <= 99; n++) {
            Kit k = new Kit();
            k.fine("year(" + n + ")", k.it.year(n), 0);
            k.fine("it is the YEAR", k.it.many(5), n);
        }
    }

    /** 7: above 9,999. */
    private static void yearsUpToNineThousand() {
        late().fine("the YEAR", late().it.many(5), 9990);
        for (int n : new int[] {10, 11, 50, 98, 99}) {
            Edges.refused("year(" + n + ") in 9,990", EdgesDeedsTest::late, x -> x.year(n), 7);
        }
        for (int n = 1; n <= 9; n++) {
            Kit k = late();
            k.fine("year(" + n + ") in 9,990", k.it.year(n), n == 1 ? 2 : 3);
            k.fine("the YEAR", k.it.many(5), 9990 + n);
        }
        for (int n : new int[] {1, 2, 99}) {
            Edges.refused("year(" + n + ") in 9,999", () -> lateBy(9), x -> x.year(n), 7);
        }
        Edges.refused("year(0) in 9,999", () -> lateBy(9), x -> x.year(0), 5);
        Edges.refused("year(2) in 9,998", () -> lateBy(8), x -> x.year(2), 7);
        Kit k = lateBy(8);
        k.fine("year(1) in 9,998", k.it.year(1), 0);
        k.fine("the last YEAR", k.it.many(5), 9999);
        // what only asks what will be is not bound by it
        k.it.remake(0);
        k.fine("later", k.it.later(99), 0);
        k.fine("goneBy", k.it.goneBy(0), 1);
        k.fine("ends", k.it.ends(0), 1);
        k.fine("keep", k.it.keepSet(0, 12), 1);
    }

    /** The set of THINGS that were named: not what fell with them; none named, and the YEAR goes by. */
    private static void yearsNamed() {
        StringBuilder b = new StringBuilder();
        for (char c = 'a'; c <= 'l'; c++) {
            b.append("thing ").append(c).append(';');
        }
        b.append("voter v;");
        for (char c = 'a'; c < 'j'; c++) {
            b.append("hates v ").append(c).append(' ').append('j' - c).append(';');
        }
        b.append("voter u;hates u j 1;hates u k 1;hates u l 1;");
        Kit k = Kit.of(b.toString());
        k.fine("the most hated, u names a later one", k.it.year(1), 1);
        k.fine("eight more", k.it.year(8), 510);
        k.fine("the last three and a nameless one", k.it.year(4), 7 << 9);
        k.fine("the YEAR", k.it.many(5), 13);
        k.fine("nothing to name", k.it.year(1), 0);
        k.fine("the YEAR", k.it.many(5), 14);
        k.fine("all are unmade", k.it.many(7), 4095);
        Kit all = Kit.of(b.toString());
        all.fine("all in 99", all.it.year(99), 4095);
        Kit fall = Kit.of("thing a;thing b;makes b from a;voter v;hates v a 9;hates v b 9;");
        fall.fine("a alone was named", fall.it.year(2), 1);
        fall.fine("b has fallen", fall.it.many(8), 2);
        fall.fine("a stands again, so does b", fall.it.remake(0), 3);
        fall.fine("named anew", fall.it.year(1), 1);
        Kit none = Kit.of("thing a exempt;thing b;voter v;hates v a 9;hates v b 0;");
        none.fine("none has a VOTE", none.it.year(9), 0);
        none.fine("nothing is unmade", none.it.many(7), 0);
        none.fine("the YEARS go by", none.it.many(5), 9);
        Edges.beside("years of nothing named", Edges::full, x -> {
            for (int t = 0; t < 12; t++) {
                x.exempt(t, true);
            }
            int named = x.year(99);
            for (int t = 0; t < 12; t++) {
                x.exempt(t, false);
            }
            return named;
        }, 0, 0, Edges.Look.CITY, Edges.Look.VOTES, Edges.Look.STORY, Edges.Look.TAPE);
        // three YEARS as one, one and one
        Edges.alike("of YEARS by one and by three", () -> {
            Kit one = Edges.rich();
            one.it.year(3);
            return one;
        }, () -> {
            Kit one = Edges.rich();
            one.it.year(1);
            one.it.year(1);
            one.it.year(1);
            return one;
        });
    }

    // ---- 20 and 21: unmake, remake

    /** 2; 9: it is UNMADE, EXEMPT. */
    private static void unmakeRefused() {
        for (int t : NO_THINGS) {
            Edges.refused("unmake(" + t + ")", Edges::rich, x -> x.unmake(t), 2);
        }
        Edges.refused("unmake(12) of twelve", Edges::full, x -> x.unmake(12), 2);
        Edges.refused("unmake(0) of none", Edges::bare, x -> x.unmake(0), 2);
        Edges.refused("unmake what is UNMADE", Edges::rich, x -> x.unmake(1), 9);
        Edges.refused("unmake what is EXEMPT", Edges::rich, x -> x.unmake(3), 9);
        Edges.refused("unmake what is EXEMPT since", Edges::rich, x -> x.unmake(6), 9);
        Edges.refused("unmake what is both", () -> {
            Kit k = Edges.rich();
            k.it.exempt(1, true);
            return k;
        }, x -> x.unmake(1), 9);
        Edges.refused("unmake what has fallen and is EXEMPT", () -> {
            Kit k = Edges.rich();
            k.it.exempt(4, true);
            return k;
        }, x -> x.unmake(4), 9);
    }

    private static void unmakeStoodAndDoesNot() {
        Kit fallen = Edges.rich();
        fallen.fine("what has fallen", fallen.it.unmake(4), 0);
        fallen.fine("is UNMADE then", fallen.it.many(7), 18);
        fallen.fine("and FALLEN no more", fallen.it.many(8), 0);
        fallen.refused("it is UNMADE", fallen.it.unmake(4), 9);
        Kit chain = Kit.of("thing a;thing b;thing c;thing d exempt;makes b from a;makes c from b;makes d from c;");
        chain.fine("an EXEMPT one can fall", chain.it.unmake(0), 15);
        chain.fine("one that fell", chain.it.unmake(2), 0);
        Kit last = Edges.full();
        last.fine("the last of twelve", last.it.unmake(11), 2048);
        last.fine("the first, from which others are not only made", last.it.unmake(0), 1);
    }

    /** 2; 9: not UNMADE. */
    private static void remakeRefused() {
        for (int t : NO_THINGS) {
            Edges.refused("remake(" + t + ")", Edges::rich, x -> x.remake(t), 2);
        }
        Edges.refused("remake(12) of twelve", Edges::full, x -> x.remake(12), 2);
        Edges.refused("remake(0) of none", Edges::bare, x -> x.remake(0), 2);
        Edges.refused("remake what STANDS", Edges::rich, x -> x.remake(0), 9);
        Edges.refused("remake what has FALLEN", Edges::rich, x -> x.remake(4), 9);
        Edges.refused("remake what is EXEMPT", Edges::rich, x -> x.remake(3), 9);
        for (int t = 0; t < 12; t++) {
            int thing = t;
            Edges.refused("remake of all that stand", Edges::full, x -> x.remake(thing), 9);
        }
    }

    private static void remakeStandsAndDidNot() {
        Kit k = Edges.rich();
        k.fine("wood and bridge", k.it.remake(1), 18);
        k.refused("once", k.it.remake(1), 9);
        Kit none = Kit.of("thing a;thing b;makes b from a;");
        none.it.unmake(0);
        none.it.unmake(1);
        none.fine("not UNMADE, but FALLEN", none.it.remake(1), 0);
        none.fine("has FALLEN", none.it.many(8), 2);
        none.fine("both", none.it.remake(0), 3);
        Kit spared = Edges.rich();
        spared.it.exempt(1, true);
        spared.fine("an EXEMPT one", spared.it.remake(1), 18);
        spared.fine("is EXEMPT still", spared.it.many(9), 74);
    }

    // ---- 22: exempt

    /** 2; 9: it is so. */
    private static void exemptRefused() {
        for (int t : NO_THINGS) {
            Edges.refusedSo("exempt(" + t + ", true)", Edges::rich, x -> x.exempt(t, true), 2);
            Edges.refusedSo("exempt(" + t + ", false)", Edges::rich, x -> x.exempt(t, false), 2);
        }
        Edges.refusedSo("exempt(12, true) of twelve", Edges::full, x -> x.exempt(12, true), 2);
        Edges.refusedSo("exempt(0, false) of none", Edges::bare, x -> x.exempt(0, false), 2);
        for (int t = 0; t < 8; t++) {
            int thing = t;
            boolean is = t == 3 || t == 6;
            Edges.refusedSo("exempt(" + t + ", " + is + "): it is so", Edges::rich, x -> x.exempt(thing, is), 9);
        }
    }

    private static void exemptOrNot() {
        for (int t = 0; t < 8; t++) {
            boolean is = t == 3 || t == 6;
            Kit k = Edges.rich();
            k.fine("exempt(" + t + ", " + !is + ")", k.it.exempt(t, !is));
            k.fine("EXEMPT", k.it.many(9), 72 ^ 1 << t);
            k.fine("nothing falls by it", k.it.many(6), 237);
            k.refused("it is so", k.it.exempt(t, !is), 9);
        }
        Kit all = Edges.full();
        for (int t = 0; t < 12; t++) {
            all.fine("exempt(" + t + ", true)", all.it.exempt(t, true));
            all.fine("EXEMPT", all.it.many(9), (2 << t) - 1);
        }
        all.refused("no VOTE is left", all.it.vote(), 8);
    }

    // ---- 23 and 24: grudge, rule

    /** 2; 5. */
    private static void grudgeRefused() {
        for (int v : new int[] {LEAST, -2, -1, 3, 4, 5, 6, 12, MOST}) {
            for (int much : new int[] {LEAST, -1, 0, 9, 10, MOST}) {
                Edges.refusedSo("grudge(" + v + ", 0, " + much + ")", Edges::rich, x -> x.grudge(v, 0, much), 2);
            }
        }
        for (int t : NO_THINGS) {
            for (int much : new int[] {LEAST, -1, 0, 9, 10, MOST}) {
                Edges.refusedSo("grudge(0, " + t + ", " + much + ")", Edges::rich, x -> x.grudge(0, t, much), 2);
            }
            Edges.refusedSo("grudge(3, " + t + ", 1)", Edges::rich, x -> x.grudge(3, t, 1), 2);
        }
        Edges.refusedSo("grudge(6, 0, 1) of six", Edges::full, x -> x.grudge(6, 0, 1), 2);
        Edges.refusedSo("grudge(5, 12, 1) of twelve", Edges::full, x -> x.grudge(5, 12, 1), 2);
        for (int much : new int[] {LEAST, LEAST + 1, -256, -10, -2, -1, 10, 11, 99, 255, 256, 265, 65536, MOST - 1, MOST}) {
            Edges.refusedSo("grudge(0, 0, " + much + ")", Edges::rich, x -> x.grudge(0, 0, much), 5);
            Edges.refusedSo("grudge(5, 11, " + much + ")", Edges::full, x -> x.grudge(5, 11, much), 5);
        }
    }

    private static void grudgeByZeroToNine() {
        for (int much = 0; much <= 9; much++) {
            Kit k = Edges.full();
            k.fine("grudge(5, 11, " + much + ")", k.it.grudge(5, 11, much));
            k.fine("hates", k.it.hate(5, 11), much);
            k.fine("another voter", k.it.hate(4, 11), 0);
            k.fine("another thing", k.it.hate(5, 10), 0);
            k.fine("the first", k.it.hate(0, 0), 3);
            k.fine("the same again is fine", k.it.grudge(5, 11, much));
        }
        Kit k = Edges.rich();
        k.fine("of what is UNMADE", k.it.grudge(0, 1, 8));
        k.fine("hates", k.it.hate(0, 1), 8);
        k.fine("of what has FALLEN", k.it.grudge(0, 4, 7));
        k.fine("hates", k.it.hate(0, 4), 7);
        k.fine("of what is EXEMPT", k.it.grudge(0, 3, 6));
        k.fine("hates", k.it.hate(0, 3), 6);
    }

    /** LAW from now on (0 to 2), others 5. */
    private static void rules() {
        for (int law : new int[] {LEAST, LEAST + 1, -3, -2, -1, 3, 4, 255, 256, 257, MOST - 1, MOST}) {
            Edges.refusedSo("rule(" + law + ")", Edges::rich, x -> x.rule(law), 5);
            Edges.refusedSo("rule(" + law + ") of nothing", Edges::bare, x -> x.rule(law), 5);
            Edges.refusedSo("rule(" + law + ") of all", Edges::full, x -> x.rule(law), 5);
        }
        for (int from = 0; from <= 2; from++) {
            for (int to = 0; to <= 2; to++) {
                Kit k = Kit.of(TextsTest.TOWN + "law " + from + ";");
                k.fine("rule(" + to + ") from " + from, k.it.rule(to));
                k.fine("LAW", k.it.many(4), to);
                Kit bare = new Kit();
                bare.fine("of nothing", bare.it.rule(to));
                bare.fine("LAW", bare.it.many(4), to);
            }
        }
        Kit next = Kit.of("law 1;");
        next.it.rule(2);
        next.fine("another city", next.city("thing a;"), 1);
        next.fine("its own LAW", next.it.many(4), 0);
    }

    /** A number and a LAW that are told count from now on, in what will be, too. */
    private static void seenInTheNextVote() {
        Kit k = Kit.of("thing a;thing b;thing c;voter u;voter v;voter w;hates u a 1;hates v a 1;hates w b 9;work x needs b;");
        future(k, 0, 0b110);
        k.fine("rule(1)", k.it.rule(1));
        future(k, 1, 0b101);
        k.fine("grudge", k.it.grudge(0, 2, 9));
        future(k, 1, 0b101);
        k.fine("grudge", k.it.grudge(1, 2, 1));
        future(k, 2, 0b011);
        k.fine("rule(0)", k.it.rule(0));
        future(k, 0, 0b110);
        k.fine("grudge", k.it.grudge(2, 1, 0));
        future(k, 0, 0b110);
        k.fine("exempt", k.it.exempt(0, true));
        future(k, 2, 0b011);
        k.fine("unmake", k.it.unmake(2), 4);
        k.refused("none is left", k.it.vote(), 8);
        k.fine("later(1)", k.it.later(1), 3);
        k.fine("remake", k.it.remake(2), 4);
        future(k, 2, 0b011);
    }

    /** Each of twelve is named in turn, by a number told anew; by each LAW. */
    private static void eachNamedInTurn() {
        for (int law = 0; law <= 2; law++) {
            Kit k = Kit.of("thing a;thing b;thing c;thing d;thing e;thing f;thing g;thing h;thing i;thing j;thing k;thing l;voter v;law " + law + ";");
            for (int round = 0; round < 3; round++) {
                for (int t = 0; t < 12; t++) {
                    int thing = round == 1 ? 11 - t : t;
                    k.fine("grudge", k.it.grudge(0, thing, 9 - round));
                    k.fine("later(1)", k.it.later(1), 4095 & ~(1 << thing));
                    k.fine("later(99)", k.it.later(99), 4095 & ~(1 << thing));
                    k.fine("grudge", k.it.grudge(0, thing, 0));
                }
            }
        }
    }

    private static void future(Kit k, int named, int left) {
        k.fine("vote()", k.it.vote(), named);
        k.fine("later(1)", k.it.later(1), left);
        k.fine("goneBy", k.it.goneBy(named), 1);
        if (named == 1) {
            k.fine("ends", k.it.ends(0), 1);
            k.fine("keepSet", k.it.keepSet(0, 1), 2);
        } else {
            k.fine("keepSet", k.it.keepSet(0, 1), 0);
        }
    }

    /** What is done and undone leaves nothing. */
    private static void takenBackByItsContrary() {
        Edges.alike("of what was unmade and remade", () -> {
            Kit k = Edges.rich();
            for (int t : new int[] {0, 2, 4, 5, 7}) {
                k.it.unmake(t);
            }
            for (int t : new int[] {7, 2, 0, 5, 4}) {
                k.it.remake(t);
            }
            return k;
        }, Edges::rich);
        Edges.alike("of what was exempt and is not", () -> {
            Kit k = Edges.rich();
            for (int t = 0; t < 8; t++) {
                k.it.exempt(t, t != 3 && t != 6);
            }
            for (int t = 0; t < 8; t++) {
                k.it.exempt(t, t == 3 || t == 6);
            }
            return k;
        }, Edges::rich);
        Edges.alike("of other grudges and laws", () -> {
            Kit k = Edges.rich();
            for (int law = 0; law < 3; law++) {
                k.it.rule(law);
                k.it.grudge(0, 5, 9);
                k.it.later(9);
                k.it.vote();
                k.it.grudge(0, 5, 0);
            }
            k.it.rule(1);
            return k;
        }, Edges::rich);
    }
}
