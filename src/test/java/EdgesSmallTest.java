/**
 * All cities of few things, each one compared with the model: all makings of three, all grudges of two voters, all aheads
 * of four. Whatever edge there is among so few is met here.
 */
final class EdgesSmallTest {
    public static void main(String[] args) {
        allMakingsOfThree();
        allGrudgesOfTwo();
        allAheadsOfFour();
        Kit.end("EdgesSmallTest");
    }

    /** An answer that is NONE with STATUS 8 where there is none. */
    private static void perhaps(Kit k, String call, int got, int want) {
        if (want == Unmade.NONE) {
            k.refused(call, got, 8);
        } else {
            k.fine(call, got, want);
        }
    }

    private static Model of(int n) {
        Model m = new Model();
        m.n = n;
        m.worth = new int[n];
        m.hates = new int[0][n];
        m.ahead = new boolean[n][n];
        for (int t = 0; t < n; t++) {
            m.worth[t] = 1 + t % 2;
            m.text.append("thing ").append((char) ('a' + t)).append(" worth ").append(m.worth[t]).append(';');
        }
        return m;
    }

    private static void append(Model m, String part, int set) {
        m.text.append(part);
        for (int t = 0; t < m.n; t++) {
            m.text.append(Model.in(set, t) ? " " + (char) ('a' + t) : "");
        }
        m.text.append(';');
    }

    // ---- standing, falling, looks, plans

    /** Of each thing there may be, or not, a making from each set of the others; each set of them may be unmade. */
    private static void allMakingsOfThree() {
        for (int city = 0; city < 512; city++) {
            Model m = of(3);
            for (int bit = 0; bit < 9; bit++) {
                if (Model.in(city, bit)) {
                    int product = bit / 3;
                    int one = 1 << (product + 1) % 3;
                    int other = 1 << (product + 2) % 3;
                    int set = bit % 3 == 0 ? one : bit % 3 == 1 ? other : one | other;
                    m.makings.add(new int[] {product, set});
                    append(m, "makes " + (char) ('a' + product) + " from", set);
                }
            }
            for (int need = 1; need < 6; need++) {
                m.works.add(need);
                append(m, "work w" + (char) ('a' + need) + " needs", need);
            }
            for (int gone = 0; gone < 8; gone++) {
                Kit k = Kit.of(m.text.toString());
                for (int t = 0; t < 3; t++) {
                    k.it.unmake(t);
                }
                for (int t = 0; t < 3; t++) {
                    if (!Model.in(gone, t)) {
                        k.it.remake(t);
                    }
                }
                m.unmade = gone;
                compare(k, m);
            }
        }
    }

    private static void compare(Kit k, Model m) {
        String at = m.text + " without " + m.unmade + ": ";
        int up = m.stands(m.unmade);
        k.fine(at + "stands", k.it.many(6), up);
        k.fine(at + "unmade", k.it.many(7), m.unmade);
        k.fine(at + "fallen", k.it.many(8), 7 & ~up & ~m.unmade);
        k.fine(at + "done", k.it.many(10), m.done(m.unmade));
        k.fine(at + "worth", k.it.many(11), m.worthOf(up));
        int key = Unmade.NONE;
        for (int t = 0; t < 3; t++) {
            if (!Model.in(up, t)) {
                k.refused(at + "falls", k.it.falls(t), 9);
                k.refused(at + "loss", k.it.loss(t), 9);
                continue;
            }
            k.fine(at + "falls", k.it.falls(t), m.falls(t));
            k.fine(at + "loss", k.it.loss(t), m.worthOf(m.falls(t)));
            if (key == Unmade.NONE || m.worthOf(m.falls(t)) > m.worthOf(m.falls(key))) {
                key = t;
            }
        }
        perhaps(k, at + "keystone", k.it.keystone(), key);
        ModelPlans plans = new ModelPlans(m);
        for (int set = 0; set < 8; set++) {
            k.fine(at + "wasIt " + set, k.it.wasIt(set), plans.wasIt(set));
            looks(k, at, set, up, plans);
        }
        for (int t = 0; t < 3; t++) {
            perhaps(k, at + "againSet " + t, k.it.againSet(t), plans.againSet(t));
        }
        for (int w = 0; w < m.works.size(); w++) {
            perhaps(k, at + "strikeSet " + w, k.it.strikeSet(w), plans.strikeSet(w));
            perhaps(k, at + "keepSet " + w, k.it.keepSet(w, 12), plans.keepSet(w, 12));
        }
        games(k, m, at, plans);
    }

    /** Of things that stand some look always tells something: none fall alike. */
    private static void looks(Kit k, String at, int set, int up, ModelPlans plans) {
        boolean bad = (set & ~up) != 0;
        if (bad || Integer.bitCount(set) < 2) {
            k.refused(at + "tells " + set, k.it.tells(set), 5);
        } else {
            k.fine(at + "tells " + set, k.it.tells(set), plans.tells(set));
        }
        if (bad || set == 0) {
            k.refused(at + "sure " + set, k.it.sure(set), 5);
        } else {
            k.fine(at + "sure " + set, k.it.sure(set), plans.sure(set));
        }
        if (set == 0) {
            k.refused(at + "agenda of none", k.it.agenda(set), 5);
        } else if (bad) {
            k.refused(at + "agenda " + set, k.it.agenda(set), 9);
        } else {
            int[] order = plans.agenda(set);
            k.fine(at + "agenda " + set, k.it.agenda(set), order[order.length - 1]);
            for (int i = 0; i < order.length - 1; i++) {
                k.fine(at + "agendaAt of " + set, k.it.agendaAt(i), order[i]);
            }
        }
    }

    private static void games(Kit k, Model m, String at, ModelPlans plans) {
        for (int works = 0; works < 32; works += 5) {
            for (int turns = 1; turns <= 4; turns++) {
                k.fine(at + "game", k.it.game(works, turns), plans.game(works, m.unmade, turns, true));
                perhaps(k, at + "firstMove", k.it.firstMove(works, turns), plans.firstMove(works, turns));
            }
        }
    }

    // ---- votes

    /** Each of two hates each of three by 0, 1 or 9; by each law, each set exempt. */
    private static void allGrudgesOfTwo() {
        int[] much = {0, 1, 9};
        for (int all = 0; all < 729; all++) {
            Model m = of(3);
            m.text.append("voter v;voter u;makes c from a;work w needs c;work x needs a b;");
            m.makings.add(new int[] {2, 1});
            m.works.add(4);
            m.works.add(3);
            m.hates = new int[2][3];
            int left = all;
            for (int i = 0; i < 6; i++) {
                m.hates[i / 3][i % 3] = much[left % 3];
                left /= 3;
            }
            for (int exempt = 0; exempt < 8; exempt++) {
                Kit k = Kit.of(m.text.toString());
                for (int i = 0; i < 6; i++) {
                    k.fine("grudge", k.it.grudge(i / 3, i % 3, m.hates[i / 3][i % 3]));
                }
                for (int t = 0; t < 3; t++) {
                    k.it.exempt(t, Model.in(exempt, t));
                }
                m.exempt = exempt;
                for (int law = 0; law < 3; law++) {
                    m.law = law;
                    k.fine("rule", k.it.rule(law));
                    compareVotes(k, m, "grudges " + all + " exempt " + exempt + " law " + law + ": ");
                }
            }
        }
    }

    private static void compareVotes(Kit k, Model m, String at) {
        int[] votes = new int[3];
        int named = m.vote(m.law, 0, m.exempt, votes);
        perhaps(k, at + "vote", k.it.vote(), named);
        for (int t = 0; t < 3; t++) {
            k.fine(at + "votes " + t, k.it.votes(t), votes[t]);
        }
        int[] goneBy = {-1, -1, -1};
        int[] ends = {-1, -1};
        int gone = 0;
        for (int years = 0; years <= 4; years++) {
            k.fine(at + "later " + years, k.it.later(years), m.stands(gone));
            for (int t = 0; t < 3; t++) {
                goneBy[t] = goneBy[t] < 0 && !Model.in(m.stands(gone), t) ? years : goneBy[t];
            }
            for (int w = 0; w < 2; w++) {
                ends[w] = ends[w] < 0 && !Model.in(m.done(gone), w) ? years : ends[w];
            }
            gone = m.nextYear(gone, m.exempt);
        }
        for (int t = 0; t < 3; t++) {
            perhaps(k, at + "goneBy " + t, k.it.goneBy(t), goneBy[t]);
        }
        ModelPlans plans = new ModelPlans(m);
        for (int w = 0; w < 2; w++) {
            perhaps(k, at + "ends " + w, k.it.ends(w), ends[w]);
            for (int years = 0; years <= 3; years++) {
                perhaps(k, at + "keepSet " + w, k.it.keepSet(w, years), plans.keepSet(w, years));
            }
        }
        for (int v = 0; v < 2; v++) {
            if (m.law == 2) {
                k.refused(at + "sway", k.it.sway(v), 9);
            } else {
                k.fine(at + "sway " + v, k.it.sway(v), swayed(m, v));
            }
        }
    }

    /** What is named by some numbers of his: each of 0, 1, 8 and 9 for each thing, which is as good as all. */
    private static int swayed(Model m, int voter) {
        int[] own = m.hates[voter];
        int[] much = {0, 1, 8, 9};
        int set = 0;
        for (int all = 0; all < 64; all++) {
            m.hates[voter] = new int[] {much[all & 3], much[all >> 2 & 3], much[all >> 4 & 3]};
            int named = m.vote(m.law, 0, m.exempt, new int[3]);
            set |= named == Unmade.NONE ? 0 : 1 << named;
        }
        m.hates[voter] = own;
        return set;
    }

    // ---- orders

    /** Each of four may be told ahead of each other one. */
    private static void allAheadsOfFour() {
        for (int all = 0; all < 4096; all++) {
            Model m = of(4);
            for (int bit = 0; bit < 12; bit++) {
                if (Model.in(all, bit)) {
                    int first = bit / 3;
                    int second = (first + 1 + bit % 3) % 4;
                    m.ahead[first][second] = true;
                    m.text.append("ahead ").append((char) ('a' + first)).append(' ').append((char) ('a' + second)).append(';');
                }
            }
            Kit k = Kit.of(m.text.toString());
            ModelPlans plans = new ModelPlans(m);
            for (int bit = 0; bit < 12; bit++) {
                int first = bit / 3;
                int second = (first + 1 + bit % 3) % 4;
                int[] orders = plans.orders(first, second);
                if (bit == 0) {
                    k.fine(m.text + "histories", k.it.histories(), orders[0]);
                    k.fine(m.text + "firsts", k.it.firsts(), orders[2]);
                    k.fine(m.text + "clash", k.it.clash(), orders[3]);
                }
                if (orders[0] == 0) {
                    k.refused(m.text + "aheadOdds", k.it.aheadOdds(first, second), 8);
                } else {
                    k.fine(m.text + "aheadOdds", k.it.aheadOdds(first, second));
                    Kit.due(m.text + "the fraction", k.it.top() * orders[0], orders[1] * k.it.bottom());
                    Kit.due(m.text + "no common divisor", divisor(k.it.top(), k.it.bottom()), 1);
                }
            }
        }
    }

    private static long divisor(long a, long b) {
        return b == 0 ? a : divisor(b, a % b);
    }
}
