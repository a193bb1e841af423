import java.util.ArrayList;
import java.util.List;

/** Centuries of Plain, lived through by a town, which becomes what it becomes. */
final class PlainLife {
    private static final class Stop extends RuntimeException {
        private static final long serialVersionUID = 1L;

        Stop() {
            super(null, null, false, false);
        }
    }

    private final PlainTown town;
    private long s;
    int come = 0;
    /** Missed, years, things unmade, jokes, whether a step was left. */
    final int[] tally = new int[5];

    PlainLife(PlainTown town, int seed) {
        this.town = town;
        s = seed;
        try {
            all(town.centuries);
        } catch (Stop stop) {
            s = seed;
        }
    }

    private void all(List<PlainText.Step> steps) {
        for (PlainText.Step step : steps) {
            if (come == 300) {
                tally[4] = 1;
                throw new Stop();
            }
            come++;
            one(step);
        }
    }

    private void missed() {
        tally[0]++;
    }

    private void one(PlainText.Step step) {
        int bit = 1 << step.object;
        switch (step.word) {
            case "year":
                years(step.number);
                break;
            case "unmake":
                if ((town.unmade & bit) != 0 || (town.exempt & bit) != 0) {
                    missed();
                } else {
                    town.unmade += bit;
                    tally[2]++;
                }
                break;
            case "remake":
                if ((town.unmade & bit) == 0) {
                    missed();
                } else {
                    town.unmade -= bit;
                }
                break;
            case "spare":
                town.exempt += (town.exempt & bit) == 0 ? bit : -bit;
                break;
            case "joke":
                joke();
                break;
            case "stop":
                throw new Stop();
            case "loop":
                for (int k = 0; k < step.number; k++) {
                    all(step.within);
                }
                break;
            default:
                if (holds(step)) {
                    all(step.within);
                }
        }
    }

    private void years(int many) {
        if (town.year + many > 9999) {
            missed();
            return;
        }
        for (int y = 0; y < many; y++) {
            int named = town.vote(town.law, town.unmade, town.exempt, new int[12]);
            town.year++;
            tally[1]++;
            if (named < 0) {
                missed();
            } else {
                town.unmade += 1 << named;
                tally[2]++;
            }
        }
    }

    private void joke() {
        List<Integer> part = new ArrayList<>();
        int up = town.stands(town.unmade);
        for (int t = 0; t < town.things(); t++) {
            if ((up & ~town.exempt & 1 << t) != 0) {
                part.add(t);
            }
        }
        if (part.isEmpty()) {
            missed();
            return;
        }
        s = (s * 2971 + 10663) % 65536;
        town.unmade += 1 << part.get((int) (s / 8 % part.size()));
        tally[2]++;
        tally[3]++;
    }

    private boolean holds(PlainText.Step step) {
        if (step.test.equals("stands")) {
            return (town.stands(town.unmade) >> step.object & 1) != 0;
        }
        if (step.test.equals("done")) {
            return (town.done(town.unmade) >> step.object & 1) != 0;
        }
        int[] votes = new int[12];
        town.vote(1, town.unmade, town.exempt, votes);
        int got = votes[step.object];
        return step.sign == '<' ? got < step.number : step.sign == '>' ? got > step.number : got == step.number;
    }
}
