import java.util.ArrayList;
import java.util.Arrays;
import java.util.List;

/** A city of Plain: what its text tells, and what became of it. */
final class PlainTown {
    final List<String> thingNames = new ArrayList<>();
    final List<String> workNames = new ArrayList<>();
    final List<String> voterNames = new ArrayList<>();
    final List<Integer> worth = new ArrayList<>();
    final List<Integer> needs = new ArrayList<>();
    /** Of each making the thing, and the set it is made from. */
    final List<int[]> makes = new ArrayList<>();
    final List<int[]> hates = new ArrayList<>();
    /** Of each thing the set of those told ahead of it. */
    int[] ahead = new int[12];
    int law = 0;
    int year = 0;
    int unmade = 0;
    int exempt = 0;
    List<PlainText.Step> centuries = null;

    int things() {
        return thingNames.size();
    }

    PlainTown copy() {
        PlainTown other = new PlainTown();
        other.thingNames.addAll(thingNames);
        other.workNames.addAll(workNames);
        other.voterNames.addAll(voterNames);
        other.worth.addAll(worth);
        other.needs.addAll(needs);
        other.makes.addAll(makes);
        hates.forEach(row -> other.hates.add(row.clone()));
        other.ahead = ahead.clone();
        other.law = law;
        other.year = year;
        other.unmade = unmade;
        other.exempt = exempt;
        other.centuries = centuries;
        return other;
    }

    private static boolean in(int set, int t) {
        return (set >> t & 1) != 0;
    }

    /** Found from those without makings on, again and again, till no more stand. */
    int stands(int without) {
        int up = 0;
        int before;
        do {
            before = up;
            for (int t = 0; t < things(); t++) {
                up |= !in(without, t) && canBeHad(t, before) ? 1 << t : 0;
            }
        } while (up != before);
        return up;
    }

    private boolean canBeHad(int t, int up) {
        boolean made = false;
        for (int[] make : makes) {
            if (make[0] == t) {
                made = true;
                if ((make[1] & ~up) == 0) {
                    return true;
                }
            }
        }
        return !made;
    }

    int done(int without) {
        int up = stands(without);
        int set = 0;
        for (int w = 0; w < needs.size(); w++) {
            set |= (needs.get(w) & ~up) == 0 ? 1 << w : 0;
        }
        return set;
    }

    int worthOf(int set) {
        int sum = 0;
        for (int t = 0; t < things(); t++) {
            sum += in(set, t) ? worth.get(t) : 0;
        }
        return sum;
    }

    /** What the vote names, or NONE; the row is filled with the votes of each thing. */
    int vote(int byLaw, int without, int spared, int[] votes) {
        List<Integer> part = new ArrayList<>();
        int up = stands(without);
        for (int t = 0; t < things(); t++) {
            if (in(up, t) && !in(spared, t)) {
                part.add(t);
            }
        }
        cast(byLaw, part, votes);
        while (byLaw == 2) {
            List<Integer> holders = new ArrayList<>(part);
            holders.removeIf(t -> votes[t] == 0);
            if (holders.size() < 2) {
                break;
            }
            Integer out = holders.get(0);
            for (Integer t : holders) {
                out = votes[t] <= votes[out] ? t : out;
            }
            part.remove(out);
            cast(byLaw, part, votes);
        }
        int named = Plain.NONE;
        for (int t : part) {
            named = votes[t] > (named < 0 ? 0 : votes[named]) ? t : named;
        }
        return named;
    }

    private void cast(int byLaw, List<Integer> part, int[] votes) {
        part.forEach(t -> votes[t] = 0);
        for (int[] row : hates) {
            int most = part.stream().mapToInt(t -> row[t]).max().orElse(0);
            boolean given = false;
            for (int t : part) {
                if (byLaw == 1) {
                    votes[t] += row[t];
                } else if (!given && most > 0 && row[t] == most) {
                    votes[t]++;
                    given = true;
                }
            }
        }
    }

    int nextYear(int without, int spared) {
        int named = vote(law, without, spared, new int[12]);
        return named < 0 ? without : without | 1 << named;
    }

    int unmadeIn(int years, int spared) {
        int without = unmade;
        for (int y = 0; y < years; y++) {
            int next = nextYear(without, spared);
            if (next == without) {
                return without;
            }
            without = next;
        }
        return without;
    }

    @Override
    public String toString() {
        return thingNames + " worth " + worth + " needs " + needs + " makes " + Arrays.deepToString(makes.toArray())
            + " hates " + Arrays.deepToString(hates.toArray()) + " ahead " + Arrays.toString(ahead) + " law " + law
            + " year " + year + " unmade " + unmade + " exempt " + exempt;
    }
}
