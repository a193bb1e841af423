import java.math.BigInteger;
import java.util.ArrayDeque;
import java.util.ArrayList;
import java.util.Arrays;
import java.util.Deque;
import java.util.HashMap;
import java.util.List;
import java.util.Map;
import java.util.stream.IntStream;

/**
 * The document written once more, as plainly as can be and with nothing of the class's ways: every call of the face, which
 * tries all there is to try. Sets are numbers, as in the document. What a city is and how its texts go stands in PlainTown
 * and PlainText.
 */
final class Plain {
    static final int NONE = -1;

    private static final class Refused extends RuntimeException {
        private static final long serialVersionUID = 1L;
        final int status;

        Refused(int status) {
            super(null, null, false, false);
            this.status = status;
        }
    }

    private final long[][] trays = new long[4][];
    private final int[] bits = new int[4];
    private final StringBuilder tape = new StringBuilder();
    private final Deque<PlainTown> marks = new ArrayDeque<>();
    private PlainTown town = new PlainTown();
    private int[] agenda = {};
    private int[] lived = null;
    private int[] fault = null;
    private int status = 0;
    private long top = 0;
    private long bottom = 1;

    private static void or(int status, boolean good) {
        if (!good) {
            throw new Refused(status);
        }
    }

    private static int there(int answer) {
        or(8, answer != NONE);
        return answer;
    }

    private static boolean in(int set, int t) {
        return (set >> t & 1) != 0;
    }

    private static int size(int set) {
        return Integer.bitCount(set);
    }

    private void thingIs(int t) {
        or(2, t >= 0 && t < town.things());
    }

    private void workIs(int w) {
        or(2, w >= 0 && w < town.needs.size());
    }

    private void voterIs(int v) {
        or(2, v >= 0 && v < town.hates.size());
    }

    private boolean isSet(int set) {
        return set >= 0 && set < 1 << town.things();
    }

    int things() {
        return town.things();
    }

    /** What stands, asked without a call. */
    int standing() {
        return up();
    }

    /** What falls with a thing, asked without a call. */
    int fallingWith(int t) {
        return t < town.things() ? fallsWith(t) : 0;
    }

    private int up() {
        return town.stands(town.unmade);
    }

    /** Makes a call by its name: its answer, a truth as 1 or 0. */
    long call(String name, long... a) {
        int[] i = Arrays.stream(a).mapToInt(v -> (int) v).toArray();
        switch (name) {
            case "status": return status;
            case "top": return top;
            case "bottom": return bottom;
            case "fault": return fault == null || i[0] < 0 || i[0] > 1 ? NONE : fault[i[0]];
            case "feed": return feed(i);
            default:
        }
        try {
            long answer = answer(name, i, a);
            status = 0;
            return answer;
        } catch (Refused refused) {
            status = refused.status;
            return LongRunsTest.isTruth(name) ? 0 : NONE;
        }
    }

    private int feed(int[] ints) {
        if (tape.length() + 20 > 900) {
            return NONE;
        }
        for (int four : ints) {
            for (int shift = 24; shift >= 0; shift -= 8) {
                tape.append((char) (four >> shift & 255));
            }
        }
        return tape.length();
    }

    private long answer(String name, int[] i, long[] a) {
        switch (name) {
            case "tray": return tray(i[0], i[1], i[2]);
            case "write": return write(i[0], i[1], a[2]);
            case "read": return read(i[0], i[1]);
            case "pour": return pour(i);
            case "city": return city(i[0]);
            case "centuries": return centuries(i[0]);
            case "many": return many(i[0]);
            case "thing": return thing(i[0], i[1]);
            case "making": return making(i[0], i[1]);
            case "needs": workIs(i[0]); return town.needs.get(i[0]);
            case "hate": voterIs(i[0]); thingIs(i[1]); return town.hates.get(i[0])[i[1]];
            case "copyWorth": return copyWorth(i[0]);
            case "year": return year(i[0]);
            case "unmake": return unmake(i[0]);
            case "remake": return remake(i[0]);
            case "exempt": return exempt(i[0], i[1] != 0);
            case "grudge": return grudge(i[0], i[1], i[2]);
            case "rule": or(5, i[0] >= 0 && i[0] <= 2); town.law = i[0]; return 1;
            case "vote": return there(town.vote(town.law, town.unmade, town.exempt, new int[12]));
            case "votes": return votes(i[0]);
            case "voteBy": or(5, i[0] >= 0 && i[0] <= 2); return there(town.vote(i[0], town.unmade, town.exempt, new int[12]));
            case "sway": return sway(i[0]);
            default: return look(name, i);
        }
    }

    private long look(String name, int[] i) {
        switch (name) {
            case "falls": return falls(i[0]);
            case "loss": return town.worthOf(falls(i[0]));
            case "keystone": return keystone();
            case "goneBy": thingIs(i[0]); return till(1 << i[0]);
            case "ends": workIs(i[0]); return till(town.needs.get(i[0]));
            case "later": or(5, i[0] >= 0 && i[0] <= 99); return town.stands(town.unmadeIn(i[0], town.exempt));
            case "keep": return size(keepSet(i[0], i[1]));
            case "keepSet": return keepSet(i[0], i[1]);
            case "strike": return size(strikeSet(i[0]));
            case "strikeSet": return strikeSet(i[0]);
            case "agenda": return agenda(i[0]);
            case "agendaAt": or(8, i[0] >= 0 && i[0] < agenda.length); return agenda[i[0]];
            case "game": gameIs(i[0], i[1]); return play(i[0], town.unmade, i[1], true);
            case "firstMove": return firstMove(i[0], i[1]);
            case "again": return size(againSet(i[0]));
            case "againSet": return againSet(i[0]);
            case "wasIt": return wasIt(i[0]);
            case "tells": return tells(i[0]);
            case "sure": return sure(i[0]);
            case "histories": return orders(0, town.ahead, new HashMap<>());
            case "firsts": return firsts();
            case "clash": return clash();
            case "aheadOdds": return aheadOdds(i[0], i[1]);
            case "live": return live(i[0]);
            case "lived": or(5, i[0] >= 0 && i[0] <= 4); or(8, lived != null); return lived[i[0]];
            case "mean": return mean(i[0], i[1]);
            case "mark": or(7, marks.size() < 3); marks.push(town.copy()); return marks.size();
            case "back": or(8, !marks.isEmpty()); town = marks.pop(); return marks.size();
            default: throw new IllegalStateException(name);
        }
    }

    // ---- TRAYS

    private void trayIs(int k) {
        or(1, k >= 0 && k <= 3);
    }

    private long cut(int tray, long v) {
        return v << 64 - bits[tray] >> 64 - bits[tray];
    }

    private long tray(int k, int sort, int many) {
        trayIs(k);
        or(1, sort >= 0 && sort <= 3);
        or(5, many <= 60);
        or(6, many >= 0);
        trays[k] = new long[many];
        bits[k] = 8 << sort;
        return 1;
    }

    private void placeIs(int k, int place) {
        trayIs(k);
        or(3, trays[k] != null);
        or(4, place >= 0 && place < trays[k].length);
    }

    private long write(int k, int place, long v) {
        placeIs(k, place);
        trays[k][place] = cut(k, v);
        return 1;
    }

    private long read(int k, int place) {
        placeIs(k, place);
        return trays[k][place];
    }

    private long pour(int[] i) {
        trayIs(i[0]);
        trayIs(i[2]);
        or(3, trays[i[0]] != null && trays[i[2]] != null);
        or(11, bits[i[0]] == bits[i[2]]);
        or(6, i[4] >= 0);
        or(4, i[1] >= 0 && (long) i[1] + i[4] <= trays[i[0]].length);
        or(4, i[3] >= 0 && (long) i[3] + i[4] <= trays[i[2]].length);
        long[] were = trays[i[0]].clone();
        for (int k = 0; k < i[4]; k++) {
            trays[i[2]][i[3] + k] = were[i[1] + k];
        }
        return 1;
    }

    private long copyWorth(int k) {
        trayIs(k);
        or(3, trays[k] != null);
        or(4, trays[k].length >= town.things());
        for (int t = 0; t < town.things(); t++) {
            trays[k][t] = in(up(), t) ? cut(k, town.worth.get(t)) : 0;
        }
        return town.things();
    }

    // ---- texts

    private int city(int n) {
        or(5, n >= 0 && n <= tape.length());
        PlainTown next = new PlainTown();
        PlainText text = new PlainText(tape.substring(0, n), next);
        tape.setLength(0);
        fault = text.city();
        or(10, fault[0] == 0);
        town = next;
        return town.things();
    }

    private int centuries(int n) {
        or(5, n >= 0 && n <= tape.length() && n <= 300);
        PlainText text = new PlainText(tape.substring(0, n), town);
        tape.setLength(0);
        fault = text.centuries();
        or(10, fault[0] == 0);
        town.centuries = text.steps;
        return text.counted;
    }

    private int many(int what) {
        int all = (1 << town.things()) - 1;
        switch (what) {
            case 0: return town.things();
            case 1: return town.makes.size();
            case 2: return town.needs.size();
            case 3: return town.hates.size();
            case 4: return town.law;
            case 5: return town.year;
            case 6: return up();
            case 7: return town.unmade;
            case 8: return all & ~(town.unmade | up());
            case 9: return town.exempt;
            case 10: return town.done(town.unmade);
            case 11: return town.worthOf(up());
            default: throw new Refused(5);
        }
    }

    private int thing(int t, int what) {
        thingIs(t);
        or(5, what >= 0 && what <= 3);
        int set = 0;
        for (int m = 0; m < town.makes.size(); m++) {
            set |= town.makes.get(m)[0] == t ? 1 << m : 0;
        }
        return what == 0 ? town.worth.get(t) : what == 1 ? up() >> t & 1 : what == 2 ? set : town.ahead[t];
    }

    private int making(int m, int what) {
        or(2, m >= 0 && m < town.makes.size());
        or(5, what == 0 || what == 1);
        return town.makes.get(m)[what];
    }

    // ---- what is done, votes

    private int year(int years) {
        or(5, years >= 1 && years <= 99);
        or(7, town.year + years <= 9999);
        int named = town.unmadeIn(years, town.exempt) & ~town.unmade;
        town.unmade |= named;
        town.year += years;
        return named;
    }

    private int unmake(int t) {
        thingIs(t);
        or(9, !in(town.unmade, t) && !in(town.exempt, t));
        int stood = up();
        town.unmade |= 1 << t;
        return stood & ~up();
    }

    private int remake(int t) {
        thingIs(t);
        or(9, in(town.unmade, t));
        int stood = up();
        town.unmade -= 1 << t;
        return up() & ~stood;
    }

    private int exempt(int t, boolean is) {
        thingIs(t);
        or(9, in(town.exempt, t) != is);
        town.exempt += is ? 1 << t : -(1 << t);
        return 1;
    }

    private int grudge(int v, int t, int much) {
        voterIs(v);
        thingIs(t);
        or(5, much >= 0 && much <= 9);
        town.hates.get(v)[t] = much;
        return 1;
    }

    private int votes(int t) {
        thingIs(t);
        int[] votes = new int[12];
        town.vote(town.law, town.unmade, town.exempt, votes);
        return votes[t];
    }

    /** All numbers of his own are tried, of many things just the least and the greatest. */
    private int sway(int v) {
        voterIs(v);
        or(9, town.law != 2);
        int n = town.things();
        int[] numbers = n <= 3 ? IntStream.range(0, 10).toArray() : new int[] {0, 9};
        int[] own = town.hates.get(v);
        int set = 0;
        int codes = (int) Math.pow(numbers.length, n);
        for (int code = 0; code < codes; code++) {
            int[] other = new int[12];
            int left = code;
            for (int t = 0; t < n; t++) {
                other[t] = numbers[left % numbers.length];
                left /= numbers.length;
            }
            town.hates.set(v, other);
            int named = town.vote(town.law, town.unmade, town.exempt, new int[12]);
            set |= named == NONE ? 0 : 1 << named;
        }
        town.hates.set(v, own);
        return set;
    }

    // ---- what falls

    private int fallsWith(int t) {
        return up() & ~town.stands(town.unmade | 1 << t);
    }

    private int falls(int t) {
        thingIs(t);
        or(9, in(up(), t));
        return fallsWith(t);
    }

    private int keystone() {
        int key = NONE;
        for (int t = town.things() - 1; t >= 0; t--) {
            if (in(up(), t) && (key == NONE || town.worthOf(fallsWith(t)) >= town.worthOf(fallsWith(key)))) {
                key = t;
            }
        }
        return there(key);
    }

    private int till(int set) {
        for (int years = 0; years <= 99; years++) {
            if ((set & ~town.stands(town.unmadeIn(years, town.exempt))) != 0) {
                return years;
            }
        }
        throw new Refused(8);
    }

    // ---- plans

    /** The numbers of sets out of one, the smaller sets ahead, of as large ones the least number. */
    private static List<Integer> setsOf(int all) {
        List<Integer> sets = new ArrayList<>();
        for (int many = 0; many <= size(all); many++) {
            for (int set = 0; set <= all; set++) {
                if ((set & ~all) == 0 && size(set) == many) {
                    sets.add(set);
                }
            }
        }
        return sets;
    }

    private boolean isKept(int need, int years, int exempt) {
        int unmade = town.unmade;
        for (int y = 0; y <= years; y++) {
            if ((need & ~town.stands(unmade)) != 0) {
                return false;
            }
            unmade = town.nextYear(unmade, exempt);
        }
        return true;
    }

    private int keepSet(int w, int years) {
        workIs(w);
        or(5, years >= 0 && years <= 12);
        for (int set : setsOf((1 << town.things()) - 1 & ~town.exempt)) {
            if (isKept(town.needs.get(w), years, town.exempt | set)) {
                return set;
            }
        }
        throw new Refused(8);
    }

    private int strikeSet(int w) {
        workIs(w);
        for (int set : setsOf((1 << town.things()) - 1 & ~town.exempt & ~town.unmade)) {
            if (!in(town.done(town.unmade | set), w)) {
                return set;
            }
        }
        throw new Refused(8);
    }

    private int agenda(int set) {
        or(5, isSet(set) && set != 0 && size(set) <= 6);
        or(9, (set & ~up()) == 0);
        int[] best = new int[size(set) + 1];
        best[0] = NONE;
        tryOrders(set, new int[size(set)], 0, 0, best);
        agenda = Arrays.copyOfRange(best, 1, best.length);
        return best[0];
    }

    /** All orders, the first by things ahead; the best is kept as its worth and its things. */
    private void tryOrders(int left, int[] order, int filled, int sum, int[] best) {
        if (left == 0 && sum > best[0]) {
            best[0] = sum;
            System.arraycopy(order, 0, best, 1, filled);
        }
        for (int t = 0; t < town.things(); t++) {
            if (in(left, t)) {
                order[filled] = t;
                int unmade = town.unmade;
                for (int k = 0; k <= filled; k++) {
                    unmade |= 1 << order[k];
                }
                tryOrders(left & ~(1 << t), order, filled + 1, sum + size(town.done(unmade)), best);
            }
        }
    }

    private void gameIs(int works, int turns) {
        or(5, works >= 0 && works < 1 << town.needs.size() && turns >= 1 && turns <= 4);
    }

    private int play(int works, int unmade, int turns, boolean first) {
        int done = town.done(unmade);
        if (turns == 0) {
            return size(done & works) - size(done & ~works);
        }
        int best = NONE;
        boolean any = false;
        for (int t = 0; t < town.things(); t++) {
            if (in(town.stands(unmade) & ~town.exempt, t)) {
                int worth = play(works, unmade | 1 << t, turns - 1, !first);
                best = any && (first ? worth <= best : worth >= best) ? best : worth;
                any = true;
            }
        }
        return any ? best : play(works, unmade, turns - 1, !first);
    }

    private int firstMove(int works, int turns) {
        gameIs(works, turns);
        for (int t = 0; t < town.things(); t++) {
            if (in(up() & ~town.exempt, t)
                && play(works, town.unmade | 1 << t, turns - 1, false) == play(works, town.unmade, turns, true)) {
                return t;
            }
        }
        throw new Refused(8);
    }

    private int againSet(int t) {
        thingIs(t);
        for (int set : setsOf((1 << town.makes.size()) - 1)) {
            if (in(hadBy(set), t)) {
                return set;
            }
        }
        throw new Refused(8);
    }

    /** What can be had by some makings from what has none at all. */
    private int hadBy(int makings) {
        int had = 0;
        for (int t = 0; t < town.things(); t++) {
            had |= !in(town.unmade, t) && thing(t, 2) == 0 ? 1 << t : 0;
        }
        for (int round = 0; round < 12; round++) {
            for (int m = 0; m < town.makes.size(); m++) {
                int[] make = town.makes.get(m);
                if (in(makings, m) && !in(town.unmade, make[0]) && (make[1] & ~had) == 0) {
                    had |= 1 << make[0];
                }
            }
        }
        return had;
    }

    // ---- what was

    private int wasIt(int fell) {
        or(5, isSet(fell));
        int set = 0;
        for (int t = 0; t < town.things(); t++) {
            set |= in(up(), t) && fallsWith(t) == fell ? 1 << t : 0;
        }
        return set;
    }

    /** Those of a set that are left if a thing is found fallen. */
    private int leftBy(int set, int looked) {
        int left = 0;
        for (int t = 0; t < town.things(); t++) {
            left |= in(set, t) && !in(town.stands(town.unmade | 1 << t), looked) ? 1 << t : 0;
        }
        return left;
    }

    private int tells(int set) {
        or(5, isSet(set) && size(set) >= 2 && (set & ~up()) == 0);
        int least = size(set);
        int look = NONE;
        for (int t = 0; t < town.things(); t++) {
            int left = leftBy(set, t);
            int greater = Math.max(size(left), size(set & ~left));
            look = greater < least ? t : look;
            least = Math.min(least, greater);
        }
        return there(look);
    }

    private int sure(int set) {
        or(5, isSet(set) && set != 0 && (set & ~up()) == 0);
        int looks = looks(set, new HashMap<>());
        or(8, looks < 99);
        return looks;
    }

    private int looks(int set, Map<Integer, Integer> known) {
        if (size(set) == 1) {
            return 0;
        }
        if (!known.containsKey(set)) {
            int least = 99;
            for (int t = 0; t < town.things(); t++) {
                int left = leftBy(set, t);
                if (left != 0 && left != set) {
                    least = Math.min(least, 1 + Math.max(looks(left, known), looks(set & ~left, known)));
                }
            }
            known.put(set, least);
        }
        return known.get(set);
    }

    /** In how many ways those that are not made yet can follow. */
    private long orders(int made, int[] ahead, Map<Integer, Long> known) {
        if (made == (1 << town.things()) - 1) {
            return 1;
        }
        if (!known.containsKey(made)) {
            long sum = 0;
            for (int t = 0; t < town.things(); t++) {
                sum += !in(made, t) && (ahead[t] & ~made) == 0 ? orders(made | 1 << t, ahead, known) : 0;
            }
            known.put(made, sum);
        }
        return known.get(made);
    }

    private int firsts() {
        int set = 0;
        for (int t = 0; t < town.things(); t++) {
            set |= town.ahead[t] == 0 && orders(1 << t, town.ahead, new HashMap<>()) > 0 ? 1 << t : 0;
        }
        return set;
    }

    /** Each set of aheads is taken for untrue, smaller ones first. */
    private int clash() {
        List<int[]> pairs = new ArrayList<>();
        for (int t = 0; t < town.things(); t++) {
            for (int o = 0; o < town.things(); o++) {
                if (in(town.ahead[t], o)) {
                    pairs.add(new int[] {o, t});
                }
            }
        }
        for (int set : setsOf((1 << pairs.size()) - 1)) {
            int[] ahead = new int[12];
            for (int k = 0; k < pairs.size(); k++) {
                ahead[pairs.get(k)[1]] |= in(set, k) ? 0 : 1 << pairs.get(k)[0];
            }
            if (hasOrder(ahead)) {
                return size(set);
            }
        }
        throw new IllegalStateException("without any ahead there is an order");
    }

    private boolean hasOrder(int[] ahead) {
        int made = 0;
        for (int round = 0; round < town.things(); round++) {
            for (int t = 0; t < town.things(); t++) {
                made |= (ahead[t] & ~made) == 0 ? 1 << t : 0;
            }
        }
        return made == (1 << town.things()) - 1;
    }

    private int aheadOdds(int t, int other) {
        thingIs(t);
        thingIs(other);
        or(9, t != other);
        long all = orders(0, town.ahead, new HashMap<>());
        or(8, all > 0);
        int[] more = town.ahead.clone();
        more[other] |= 1 << t;
        fraction(orders(0, more, new HashMap<>()), all);
        return 1;
    }

    private void fraction(long over, long under) {
        BigInteger divisor = BigInteger.valueOf(over).gcd(BigInteger.valueOf(under));
        top = over / divisor.longValue();
        bottom = under / divisor.longValue();
    }

    // ---- CENTURIES

    private int live(int seed) {
        or(5, seed >= 0 && seed <= 9999);
        or(8, town.centuries != null);
        PlainLife life = new PlainLife(town, seed);
        lived = life.tally;
        return life.come;
    }

    private int mean(int seed, int many) {
        or(5, seed >= 0 && seed <= 9999 && many >= 1 && many <= 20 && seed + many <= 10000);
        or(8, town.centuries != null);
        int sum = 0;
        for (int k = 0; k < many; k++) {
            PlainTown other = town.copy();
            new PlainLife(other, seed + k);
            sum += size(other.done(other.unmade));
        }
        fraction(sum, many);
        return 1;
    }
}
