import java.util.ArrayList;
import java.util.Arrays;
import java.util.List;
import java.util.Random;

/** A city answered by trying everything, as the document's words say it: what the class is compared with. */
final class Model {
    int n;
    int[] worth;
    int exempt;
    int unmade;
    int law;
    int year;
    int[][] hates;
    final List<int[]> makings = new ArrayList<>();
    final List<Integer> works = new ArrayList<>();
    boolean[][] ahead;
    final StringBuilder text = new StringBuilder();

    static String thingName(int t) {
        return "t" + (char) ('a' + t);
    }

    static String workName(int w) {
        return "w" + (char) ('a' + w);
    }

    static String voterName(int v) {
        return "v" + (char) ('a' + v);
    }

    static boolean in(int set, int k) {
        return (set & 1 << k) != 0;
    }

    /** A city by chance; parts that name others come behind them. */
    static Model byChance(Random r, int mostThings) {
        Model m = new Model();
        m.n = r.nextInt(20) == 0 ? 0 : 1 + r.nextInt(mostThings);
        m.worth = new int[m.n];
        for (int t = 0; t < m.n; t++) {
            m.worth[t] = r.nextInt(3) == 0 ? 1 : r.nextInt(100);
            m.text.append("thing ").append(thingName(t));
            if (m.worth[t] != 1 || r.nextBoolean()) {
                m.text.append(" worth ").append(m.worth[t]);
            }
            if (r.nextInt(6) == 0) {
                m.exempt |= 1 << t;
                m.text.append(" exempt");
            }
            m.text.append(';');
        }
        m.addMakings(r);
        m.addWorks(r);
        m.addVoters(r);
        m.addAheads(r);
        if (r.nextBoolean()) {
            m.law = r.nextInt(3);
            m.text.append("law ").append(m.law).append(";\n");
        }
        return m;
    }

    private void addMakings(Random r) {
        int many = n < 2 ? 0 : r.nextInt(Math.min(13, 2 * n));
        boolean downward = r.nextBoolean();
        for (int k = 0; k < many; k++) {
            int product = r.nextInt(n);
            int set = 0;
            for (int i = 1 + r.nextInt(3); i > 0; i--) {
                int source = downward ? r.nextInt(Math.max(1, product)) : r.nextInt(n);
                set |= source == product ? 0 : 1 << source;
            }
            if (set != 0) {
                makings.add(new int[] {product, set});
                text.append("makes ").append(thingName(product)).append(" from").append(namesOf(set)).append("; ");
            }
        }
    }

    private static String namesOf(int set) {
        StringBuilder b = new StringBuilder();
        for (int t = 0; t < 12; t++) {
            b.append(in(set, t) ? " " + thingName(t) : "");
        }
        return b.toString();
    }

    private void addWorks(Random r) {
        int many = n == 0 ? 0 : r.nextInt(7);
        for (int w = 0; w < many; w++) {
            int set = 1 << r.nextInt(n) | (r.nextBoolean() ? 1 << r.nextInt(n) : 0);
            works.add(set);
            text.append("work ").append(workName(w)).append(" needs").append(namesOf(set)).append(';');
        }
    }

    private void addVoters(Random r) {
        hates = new int[r.nextInt(7)][n];
        for (int v = 0; v < hates.length; v++) {
            text.append("voter ").append(voterName(v)).append(';');
            for (int k = r.nextInt(5); k > 0 && n > 0; k--) {
                int t = r.nextInt(n);
                hates[v][t] = r.nextInt(10);
                text.append("hates ").append(voterName(v)).append(' ').append(thingName(t)).append(' ');
                text.append(hates[v][t]).append(';');
            }
        }
    }

    private void addAheads(Random r) {
        ahead = new boolean[n][n];
        boolean clashing = r.nextInt(3) == 0;
        for (int k = n < 2 ? 0 : r.nextInt(8); k > 0; k--) {
            int a = r.nextInt(n);
            int b = r.nextInt(n);
            if (a == b || a > b && !clashing) {
                continue;
            }
            ahead[a][b] = true;
            text.append("ahead ").append(thingName(a)).append(' ').append(thingName(b)).append(';');
        }
    }

    int voters() {
        return hates.length;
    }

    boolean hasMakings(int t) {
        for (int[] making : makings) {
            if (making[0] == t) {
                return true;
            }
        }
        return false;
    }

    int stands(int gone) {
        int up = 0;
        for (int before = -1; before != up; ) {
            before = up;
            for (int t = 0; t < n; t++) {
                boolean can = !hasMakings(t);
                for (int[] making : makings) {
                    can |= making[0] == t && (making[1] & up) == making[1];
                }
                if (can && !in(gone, t)) {
                    up |= 1 << t;
                }
            }
        }
        return up;
    }

    int done(int gone) {
        int up = stands(gone);
        int set = 0;
        for (int w = 0; w < works.size(); w++) {
            if ((works.get(w) & up) == works.get(w)) {
                set |= 1 << w;
            }
        }
        return set;
    }

    int worthOf(int set) {
        int sum = 0;
        for (int t = 0; t < n; t++) {
            sum += in(set, t) ? worth[t] : 0;
        }
        return sum;
    }

    /** Votes by a law in votes[], what is named, or -1. */
    int vote(int byLaw, int gone, int spared, int[] votes) {
        int open = stands(gone) & ~spared;
        Arrays.fill(votes, 0);
        if (byLaw == 1) {
            for (int t = 0; t < n; t++) {
                for (int[] row : hates) {
                    votes[t] += in(open, t) ? row[t] : 0;
                }
            }
            return first(votes, open);
        }
        while (true) {
            int[] round = roundOf(open);
            int holders = 0;
            int last = -1;
            for (int t = 0; t < n; t++) {
                if (in(open, t)) {
                    votes[t] = round[t];
                    holders += round[t] > 0 ? 1 : 0;
                    if (round[t] > 0 && (last < 0 || round[t] <= round[last])) {
                        last = t;
                    }
                }
            }
            if (byLaw == 0 || holders <= 1) {
                return first(round, open);
            }
            open &= ~(1 << last);
        }
    }

    private int[] roundOf(int open) {
        int[] round = new int[n];
        for (int[] row : hates) {
            int favourite = -1;
            for (int t = n - 1; t >= 0; t--) {
                if (in(open, t) && row[t] > 0 && (favourite < 0 || row[t] >= row[favourite])) {
                    favourite = t;
                }
            }
            if (favourite >= 0) {
                round[favourite]++;
            }
        }
        return round;
    }

    private int first(int[] votes, int open) {
        int best = -1;
        for (int t = n - 1; t >= 0; t--) {
            if (in(open, t) && votes[t] > 0 && (best < 0 || votes[t] >= votes[best])) {
                best = t;
            }
        }
        return best;
    }

    int nextYear(int gone, int spared) {
        int named = vote(law, gone, spared, new int[n]);
        return named < 0 ? gone : gone | 1 << named;
    }

    int falls(int t) {
        return stands(unmade) & ~stands(unmade | 1 << t);
    }
}
