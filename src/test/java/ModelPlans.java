import java.util.ArrayList;
import java.util.List;

/** Plans, looks and orders of a model, each by trying all that there is. */
final class ModelPlans {
    static final int NONE = -1;

    private final Model m;

    ModelPlans(Model model) {
        m = model;
    }

    /** The set with the fewest, of several the least, of those that are better than what was found. */
    private static boolean better(int set, int than) {
        if (than == NONE) {
            return true;
        }
        int a = Integer.bitCount(set);
        int b = Integer.bitCount(than);
        return a < b || a == b && set < than;
    }

    int keepSet(int work, int years) {
        int best = NONE;
        for (int set = 0; set < 1 << m.n; set++) {
            if ((set & m.exempt) != 0) {
                continue;
            }
            int gone = m.unmade;
            boolean kept = Model.in(m.done(gone), work);
            for (int y = 0; y < years && kept; y++) {
                gone = m.nextYear(gone, m.exempt | set);
                kept = Model.in(m.done(gone), work);
            }
            if (kept && better(set, best)) {
                best = set;
            }
        }
        return best;
    }

    int strikeSet(int work) {
        int best = NONE;
        for (int set = 0; set < 1 << m.n; set++) {
            if ((set & m.exempt) == 0 && !Model.in(m.done(m.unmade | set), work) && better(set, best)) {
                best = set;
            }
        }
        return best;
    }

    /** The best order, as things, with how many works together behind it. */
    int[] agenda(int set) {
        int[] best = null;
        for (int[] order : ordersOf(set)) {
            int gone = m.unmade;
            int sum = 0;
            for (int k = 0; k < order.length - 1; k++) {
                gone |= 1 << order[k];
                sum += Integer.bitCount(m.done(gone));
            }
            order[order.length - 1] = sum;
            if (best == null || sum > best[best.length - 1]) {
                best = order;
            }
        }
        return best;
    }

    /** All orders of a set, the first by things first, with a place more in each row. */
    private List<int[]> ordersOf(int set) {
        List<int[]> all = new ArrayList<>();
        extend(all, new int[Integer.bitCount(set) + 1], 0, set);
        return all;
    }

    private void extend(List<int[]> all, int[] order, int k, int left) {
        if (left == 0) {
            all.add(order.clone());
            return;
        }
        for (int t = 0; t < m.n; t++) {
            if (Model.in(left, t)) {
                order[k] = t;
                extend(all, order, k + 1, left & ~(1 << t));
            }
        }
    }

    int game(int works, int gone, int turns, boolean first) {
        if (turns == 0) {
            int done = m.done(gone);
            return Integer.bitCount(done & works) - Integer.bitCount(done & ~works);
        }
        int open = m.stands(gone) & ~m.exempt;
        if (open == 0) {
            return game(works, gone, turns - 1, !first);
        }
        Integer best = null;
        for (int t = 0; t < m.n; t++) {
            if (Model.in(open, t)) {
                int then = game(works, gone | 1 << t, turns - 1, !first);
                if (best == null || (first ? then > best : then < best)) {
                    best = then;
                }
            }
        }
        return best;
    }

    int firstMove(int works, int turns) {
        int open = m.stands(m.unmade) & ~m.exempt;
        int value = game(works, m.unmade, turns, true);
        for (int t = 0; t < m.n; t++) {
            if (Model.in(open, t) && game(works, m.unmade | 1 << t, turns - 1, false) == value) {
                return t;
            }
        }
        return NONE;
    }

    int againSet(int thing) {
        int best = NONE;
        for (int set = 0; set < 1 << m.makings.size(); set++) {
            if (better(set, best) && Model.in(hadBy(set), thing)) {
                best = set;
            }
        }
        return best;
    }

    private int hadBy(int set) {
        int had = 0;
        for (int t = 0; t < m.n; t++) {
            had |= m.hasMakings(t) || Model.in(m.unmade, t) ? 0 : 1 << t;
        }
        for (int round = 0; round < m.n; round++) {
            for (int k = 0; k < m.makings.size(); k++) {
                int[] making = m.makings.get(k);
                if (Model.in(set, k) && !Model.in(m.unmade, making[0]) && (making[1] & had) == making[1]) {
                    had |= 1 << making[0];
                }
            }
        }
        return had;
    }

    int wasIt(int fell) {
        int set = 0;
        for (int t = 0; t < m.n; t++) {
            set |= Model.in(m.stands(m.unmade), t) && m.falls(t) == fell ? 1 << t : 0;
        }
        return set;
    }

    /** Those of the suspects by whose unmaking a thing does not stand. */
    private int fallenBy(int set, int look) {
        int fallen = 0;
        for (int s = 0; s < m.n; s++) {
            fallen |= Model.in(set, s) && !Model.in(m.stands(m.unmade | 1 << s), look) ? 1 << s : 0;
        }
        return fallen;
    }

    int tells(int set) {
        int best = NONE;
        int least = Integer.bitCount(set);
        for (int t = 0; t < m.n; t++) {
            int fallen = Integer.bitCount(fallenBy(set, t));
            int greater = Math.max(fallen, Integer.bitCount(set) - fallen);
            if (greater < least) {
                least = greater;
                best = t;
            }
        }
        return best;
    }

    int sure(int set) {
        if (Integer.bitCount(set) == 1) {
            return 0;
        }
        int best = NONE;
        for (int t = 0; t < m.n; t++) {
            int fallen = fallenBy(set, t);
            if (fallen != 0 && fallen != set) {
                int a = sure(fallen);
                int b = sure(set & ~fallen);
                if (a != NONE && b != NONE && (best == NONE || 1 + Math.max(a, b) < best)) {
                    best = 1 + Math.max(a, b);
                }
            }
        }
        return best;
    }

    /** Of all orders: how many are true [0], those with a thing ahead of another [1], the firsts [2], least untrue [3]. */
    int[] orders(int thing, int other) {
        int[] found = {0, 0, 0, Integer.MAX_VALUE};
        for (int[] order : ordersOf((1 << m.n) - 1)) {
            int[] place = new int[m.n];
            for (int k = 0; k < m.n; k++) {
                place[order[k]] = k;
            }
            int untrue = 0;
            for (int a = 0; a < m.n; a++) {
                for (int b = 0; b < m.n; b++) {
                    untrue += m.ahead[a][b] && place[a] > place[b] ? 1 : 0;
                }
            }
            found[3] = Math.min(found[3], untrue);
            if (untrue == 0) {
                found[0]++;
                found[2] |= m.n > 0 ? 1 << order[0] : 0;
                found[1] += m.n > 1 && place[thing] < place[other] ? 1 : 0;
            }
        }
        return found;
    }
}
