import java.util.Random;

/** Cities by chance, each call compared with the model's answer by trying everything. */
final class ModelTest {
    private static final int CITIES = 1500;

    private final Kit k = new Kit();
    private final Random r;
    private final Model m;
    private final boolean whole;
    private final ModelPlans plans;

    private ModelTest(Random random, Model model, boolean plansToo) {
        r = random;
        m = model;
        whole = plansToo;
        plans = new ModelPlans(m);
    }

    public static void main(String[] args) {
        for (int seed = 0; seed < CITIES; seed++) {
            Random r = new Random(seed);
            Model m = Model.byChance(r, seed % 10 == 0 ? 12 : 6);
            if (m.text.length() <= 900) {
                new ModelTest(r, m, false).compare();
            }
        }
        largeOnes();
        Kit.end("ModelTest");
    }

    /** Cities with nearly as much as can be, so that plans are compared there, too. */
    private static void largeOnes() {
        int left = 12;
        for (int seed = CITIES; left > 0; seed++) {
            Random r = new Random(seed);
            Model m = Model.byChance(r, 12);
            if (m.n >= (left % 2 == 0 ? 12 : 11) && m.text.length() <= 900 && m.works.size() > 2 && m.voters() > 3) {
                new ModelTest(r, m, true).compare();
                left--;
            }
        }
    }

    /** At most six of a set. */
    private static int fewOf(int set) {
        int few = set;
        while (Integer.bitCount(few) > 6) {
            few &= few - 1;
        }
        return few;
    }

    private void compare() {
        k.fine("city", k.city(m.text.toString()), m.n);
        compareTold();
        for (int round = 0; round < 3; round++) {
            compareState();
            compareVotes();
            compareFalls();
            if (m.n <= 6 || whole) {
                comparePlans();
                comparePast();
            }
            if (m.n <= 6) {
                compareOrders();
            }
            compareLives();
            deeds();
        }
    }

    private String at(String call) {
        return m.text + " unmade " + m.unmade + " exempt " + m.exempt + " law " + m.law + ": " + call;
    }

    /** An answer that is NONE with STATUS 8 where there is none. */
    private void perhaps(String call, int got, int want) {
        if (want == Unmade.NONE) {
            k.refused(at(call), got, 8);
        } else {
            k.fine(at(call), got, want);
        }
    }

    private void compareTold() {
        for (int t = 0; t < m.n; t++) {
            int of = 0;
            for (int i = 0; i < m.makings.size(); i++) {
                of |= m.makings.get(i)[0] == t ? 1 << i : 0;
            }
            int before = 0;
            for (int o = 0; o < m.n; o++) {
                before |= m.ahead[o][t] ? 1 << o : 0;
            }
            k.fine(at("thing 0"), k.it.thing(t, 0), m.worth[t]);
            k.fine(at("thing 2"), k.it.thing(t, 2), of);
            k.fine(at("thing 3"), k.it.thing(t, 3), before);
        }
        for (int i = 0; i < m.makings.size(); i++) {
            k.fine(at("making 0"), k.it.making(i, 0), m.makings.get(i)[0]);
            k.fine(at("making 1"), k.it.making(i, 1), m.makings.get(i)[1]);
        }
        for (int w = 0; w < m.works.size(); w++) {
            k.fine(at("needs"), k.it.needs(w), m.works.get(w));
        }
    }

    private void compareState() {
        int up = m.stands(m.unmade);
        int[] want = {m.n, m.makings.size(), m.works.size(), m.voters(), m.law, m.year, up, m.unmade,
            (1 << m.n) - 1 & ~up & ~m.unmade, m.exempt, m.done(m.unmade), m.worthOf(up)};
        for (int what = 0; what < want.length; what++) {
            k.fine(at("many(" + what + ")"), k.it.many(what), want[what]);
        }
        for (int v = 0; v < m.voters(); v++) {
            for (int t = 0; t < m.n; t++) {
                k.fine(at("hate"), k.it.hate(v, t), m.hates[v][t]);
            }
        }
    }

    private void compareVotes() {
        int[] votes = new int[m.n];
        for (int law = 0; law < 3; law++) {
            perhaps("voteBy(" + law + ")", k.it.voteBy(law), m.vote(law, m.unmade, m.exempt, votes));
        }
        perhaps("vote()", k.it.vote(), m.vote(m.law, m.unmade, m.exempt, votes));
        for (int t = 0; t < m.n; t++) {
            k.fine(at("votes(" + t + ")"), k.it.votes(t), votes[t]);
        }
        for (int v = 0; v < m.voters(); v++) {
            if (m.law == 2) {
                k.refused(at("sway"), k.it.sway(v), 9);
            } else if (m.n <= 3) {
                k.fine(at("sway(" + v + ")"), k.it.sway(v), swayed(v));
            }
        }
    }

    private int swayed(int v) {
        int[] own = m.hates[v];
        int set = 0;
        for (int code = 0; code < 1000; code++) {
            int[] other = {code % 10, code / 10 % 10, code / 100};
            m.hates[v] = other;
            int named = m.vote(m.law, m.unmade, m.exempt, new int[m.n]);
            set |= named < 0 ? 0 : 1 << named;
        }
        m.hates[v] = own;
        return set;
    }

    private void compareFalls() {
        int up = m.stands(m.unmade);
        int key = Unmade.NONE;
        for (int t = 0; t < m.n; t++) {
            if (Model.in(up, t)) {
                k.fine(at("falls"), k.it.falls(t), m.falls(t));
                k.fine(at("loss"), k.it.loss(t), m.worthOf(m.falls(t)));
                key = key < 0 || m.worthOf(m.falls(t)) > m.worthOf(m.falls(key)) ? t : key;
            } else {
                k.refused(at("falls"), k.it.falls(t), 9);
                k.refused(at("loss"), k.it.loss(t), 9);
            }
        }
        perhaps("keystone()", k.it.keystone(), key);
        int[] goneBy = new int[m.n];
        int[] ends = new int[m.works.size()];
        java.util.Arrays.fill(goneBy, Unmade.NONE);
        java.util.Arrays.fill(ends, Unmade.NONE);
        int gone = m.unmade;
        for (int y = 0; y <= 99; y++) {
            int then = m.stands(gone);
            for (int t = 0; t < m.n; t++) {
                goneBy[t] = goneBy[t] < 0 && !Model.in(then, t) ? y : goneBy[t];
            }
            for (int w = 0; w < ends.length; w++) {
                ends[w] = ends[w] < 0 && !Model.in(m.done(gone), w) ? y : ends[w];
            }
            if (y < 14 || y == 99) {
                k.fine(at("later(" + y + ")"), k.it.later(y), then);
            }
            gone = y < 14 ? m.nextYear(gone, m.exempt) : gone;
        }
        for (int t = 0; t < m.n; t++) {
            perhaps("goneBy(" + t + ")", k.it.goneBy(t), goneBy[t]);
        }
        for (int w = 0; w < ends.length; w++) {
            perhaps("ends(" + w + ")", k.it.ends(w), ends[w]);
        }
    }

    private void comparePlans() {
        for (int w = 0; w < m.works.size(); w++) {
            int years = r.nextInt(13);
            int kept = plans.keepSet(w, years);
            perhaps("keepSet(" + w + ", " + years + ")", k.it.keepSet(w, years), kept);
            perhaps("keep", k.it.keep(w, years), kept < 0 ? kept : Integer.bitCount(kept));
            int struck = plans.strikeSet(w);
            perhaps("strikeSet(" + w + ")", k.it.strikeSet(w), struck);
            perhaps("strike", k.it.strike(w), struck < 0 ? struck : Integer.bitCount(struck));
        }
        int set = m.n == 0 ? 0 : fewOf(r.nextInt(1 << m.n) & m.stands(m.unmade));
        if (set != 0) {
            int[] agenda = plans.agenda(set);
            k.fine(at("agenda(" + set + ")"), k.it.agenda(set), agenda[agenda.length - 1]);
            for (int i = 0; i < agenda.length - 1; i++) {
                k.fine(at("agendaAt(" + i + ")"), k.it.agendaAt(i), agenda[i]);
            }
            k.refused("agendaAt beyond", k.it.agendaAt(agenda.length - 1), 8);
        }
        int works = r.nextInt(1 << m.works.size());
        int turns = 1 + r.nextInt(m.n <= 5 ? 4 : 3);
        k.fine(at("game(" + works + ", " + turns + ")"), k.it.game(works, turns), plans.game(works, m.unmade, turns, true));
        perhaps("firstMove(" + works + ", " + turns + ")", k.it.firstMove(works, turns), plans.firstMove(works, turns));
        for (int t = 0; t < m.n; t++) {
            int again = plans.againSet(t);
            perhaps("againSet(" + t + ")", k.it.againSet(t), again);
            perhaps("again(" + t + ")", k.it.again(t), again < 0 ? again : Integer.bitCount(again));
        }
    }

    private void comparePast() {
        int up = m.stands(m.unmade);
        for (int t = 0; t < m.n; t++) {
            int fell = r.nextBoolean() ? m.falls(t) : r.nextInt(1 << m.n);
            k.fine(at("wasIt(" + fell + ")"), k.it.wasIt(fell), plans.wasIt(fell));
        }
        for (int i = 0; i < 4 && m.n > 0; i++) {
            int set = fewOf(i == 0 ? up : r.nextInt(1 << m.n) & up);
            if (set == 0) {
                k.refused(at("sure of none"), k.it.sure(set), 5);
            } else {
                perhaps("sure(" + set + ")", k.it.sure(set), plans.sure(set));
            }
            if (Integer.bitCount(set) < 2) {
                k.refused(at("tells of too few"), k.it.tells(set), 5);
            } else {
                perhaps("tells(" + set + ")", k.it.tells(set), plans.tells(set));
            }
        }
    }

    private void compareOrders() {
        int a = m.n < 2 ? 0 : r.nextInt(m.n);
        int b = m.n < 2 ? 0 : (a + 1 + r.nextInt(m.n - 1)) % m.n;
        int[] orders = plans.orders(a, b);
        k.fine(at("histories()"), k.it.histories(), orders[0]);
        k.fine(at("firsts()"), k.it.firsts(), orders[2]);
        k.fine(at("clash()"), k.it.clash(), orders[3]);
        if (m.n >= 2 && orders[0] == 0) {
            k.refused(at("aheadOdds"), k.it.aheadOdds(a, b), 8);
        } else if (m.n >= 2) {
            k.fine(at("aheadOdds"), k.it.aheadOdds(a, b));
            checkFraction(orders[1], orders[0]);
        }
    }

    private void checkFraction(long over, long under) {
        Kit.due(at("the fraction"), k.it.top() * under, over * k.it.bottom());
        Kit.due(at("no common divisor"), gcd(k.it.top(), k.it.bottom()), 1);
        Kit.due(at("bottom above 0"), k.it.bottom() > 0 ? 1 : 0, 1);
    }

    private static long gcd(long a, long b) {
        return b == 0 ? a : gcd(b, a % b);
    }

    private void compareLives() {
        ModelStory story = new ModelStory(r, m);
        if (story.text.length() > 300) {
            return;
        }
        String text = story.text.toString();
        k.fine(at("centuries " + text), k.centuries(text), story.told);
        int unmade = m.unmade;
        int exempt = m.exempt;
        int year = m.year;
        int seed = r.nextInt(9980);
        int many = 1 + r.nextInt(5);
        int sum = 0;
        for (int i = 0; i < many; i++) {
            story.live(seed + i);
            sum += Integer.bitCount(m.done(m.unmade));
            m.unmade = unmade;
            m.exempt = exempt;
            m.year = year;
        }
        k.fine(at("mean " + text), k.it.mean(seed, many));
        checkFraction(sum, many);
        compareState();
        k.fine("mark", k.it.mark(), 1);
        story.live(seed);
        k.fine(at("live " + text), k.it.live(seed), story.steps);
        for (int what = 0; what < 5; what++) {
            k.fine(at("lived(" + what + ") " + text), k.it.lived(what), story.tally[what]);
        }
        compareState();
        k.fine("back", k.it.back(), 0);
        m.unmade = unmade;
        m.exempt = exempt;
        m.year = year;
        compareState();
        if (r.nextBoolean()) {
            // what is lived stays so, where nothing takes it back
            story.live(seed);
            k.fine(at("live " + text), k.it.live(seed), story.steps);
        }
    }

    private void deeds() {
        for (int i = r.nextInt(4); i > 0 && m.n > 0; i--) {
            int t = r.nextInt(m.n);
            int bit = 1 << t;
            int before = m.stands(m.unmade);
            switch (r.nextInt(6)) {
                case 0:
                    unmake(t, bit, before);
                    break;
                case 1:
                    if ((m.unmade & bit) == 0) {
                        k.refused(at("remake"), k.it.remake(t), 9);
                    } else {
                        m.unmade &= ~bit;
                        k.fine(at("remake"), k.it.remake(t), m.stands(m.unmade) & ~before);
                    }
                    break;
                case 2:
                    k.refused(at("exempt so"), k.it.exempt(t, (m.exempt & bit) != 0), 9);
                    k.fine(at("exempt"), k.it.exempt(t, (m.exempt & bit) == 0));
                    m.exempt ^= bit;
                    break;
                case 3:
                    m.law = r.nextInt(3);
                    k.fine(at("rule"), k.it.rule(m.law));
                    break;
                case 4:
                    if (m.voters() > 0) {
                        int v = r.nextInt(m.voters());
                        m.hates[v][t] = r.nextInt(10);
                        k.fine(at("grudge"), k.it.grudge(v, t, m.hates[v][t]));
                    }
                    break;
                default:
                    years(1 + r.nextInt(3));
            }
        }
    }

    private void unmake(int t, int bit, int before) {
        if (((m.unmade | m.exempt) & bit) != 0) {
            k.refused(at("unmake"), k.it.unmake(t), 9);
            return;
        }
        m.unmade |= bit;
        k.fine(at("unmake"), k.it.unmake(t), before & ~m.stands(m.unmade));
    }

    private void years(int many) {
        int before = m.unmade;
        for (int y = 0; y < many; y++) {
            m.unmade = m.nextYear(m.unmade, m.exempt);
        }
        m.year += many;
        k.fine(at("year(" + many + ")"), k.it.year(many), m.unmade & ~before);
    }
}
