import java.util.ArrayList;
import java.util.List;
import java.util.Random;

/** Centuries by chance, as a tree with its text, lived through on a model. */
final class ModelStory {
    private static final class Step {
        int kind;
        int a;
        int b;
        char sign;
        final List<Step> body = new ArrayList<>();
    }

    private static final class Over extends RuntimeException {
        private static final long serialVersionUID = 1L;
    }

    final StringBuilder text = new StringBuilder();
    private final List<Step> all = new ArrayList<>();
    private final Random r;
    private final Model m;
    int told = 0;
    int steps;
    int[] tally;
    private int s;

    ModelStory(Random random, Model model) {
        r = random;
        m = model;
        add(all, 0);
    }

    private void add(List<Step> to, int depth) {
        int many = depth == 0 ? r.nextInt(12) : r.nextInt(4);
        for (int k = 0; k < many && told < 30 && text.length() < 215; k++) {
            Step step = new Step();
            step.kind = r.nextInt(depth < 3 ? 9 : 6);
            if (m.n == 0 && step.kind != 0 && step.kind != 4 && step.kind != 5) {
                continue;
            }
            if (step.kind == 5 && r.nextInt(4) != 0) {
                step.kind = 4;
            }
            told++;
            to.add(step);
            tell(step);
            if (step.kind >= 6) {
                add(step.body, depth + 1);
                text.append("end;");
            }
        }
    }

    private void tell(Step step) {
        switch (step.kind) {
            case 0:
                step.a = 1 + r.nextInt(9);
                text.append("year ").append(step.a);
                break;
            case 4:
                text.append("joke");
                break;
            case 5:
                text.append("stop");
                break;
            case 6:
                step.a = r.nextBoolean() ? 1 + r.nextInt(3) : 1 + r.nextInt(99);
                text.append("loop ").append(step.a);
                break;
            case 7:
                step.a = r.nextInt(m.n);
                text.append("when stands ").append(Model.thingName(step.a));
                break;
            case 8:
                tellVotesOrDone(step);
                break;
            default:
                step.a = r.nextInt(m.n);
                text.append(step.kind == 1 ? "unmake " : step.kind == 2 ? "remake " : "spare ");
                text.append(Model.thingName(step.a));
        }
        text.append(r.nextBoolean() ? ";" : " ;\n");
    }

    private void tellVotesOrDone(Step step) {
        if (r.nextBoolean() && !m.works.isEmpty()) {
            step.kind = 9;
            step.a = r.nextInt(m.works.size());
            text.append("when done ").append(Model.workName(step.a));
            return;
        }
        step.a = r.nextInt(m.n);
        step.b = r.nextInt(12);
        step.sign = "<>=".charAt(r.nextInt(3));
        text.append("when votes ").append(Model.thingName(step.a)).append(step.sign).append(step.b);
    }

    /** Lives it on the model, which changes. */
    void live(int seed) {
        s = seed;
        steps = 0;
        tally = new int[5];
        try {
            go(all);
        } catch (Over over) {
            return;
        }
    }

    private void go(List<Step> list) {
        for (Step step : list) {
            if (steps == 300) {
                tally[4] = 1;
                throw new Over();
            }
            steps++;
            go(step);
        }
    }

    private void go(Step step) {
        int bit = 1 << step.a;
        boolean gone = (m.unmade & bit) != 0;
        boolean spared = (m.exempt & bit) != 0;
        int open = m.stands(m.unmade) & ~m.exempt;
        switch (step.kind) {
            case 0: years(step.a); break;
            case 1:
                tally[gone || spared ? 0 : 2]++;
                m.unmade |= spared ? 0 : bit;
                break;
            case 2:
                tally[0] += gone ? 0 : 1;
                m.unmade &= ~bit;
                break;
            case 3: m.exempt ^= bit; break;
            case 4: joke(open); break;
            case 5: throw new Over();
            case 6:
                for (int k = 0; k < step.a; k++) {
                    go(step.body);
                }
                break;
            default:
                if (holds(step, open)) {
                    go(step.body);
                }
        }
    }

    private boolean holds(Step step, int open) {
        if (step.kind == 7) {
            return Model.in(m.stands(m.unmade), step.a);
        }
        if (step.kind == 9) {
            return Model.in(m.done(m.unmade), step.a);
        }
        int votes = 0;
        for (int[] row : m.hates) {
            votes += Model.in(open, step.a) ? row[step.a] : 0;
        }
        return step.sign == '<' ? votes < step.b : step.sign == '>' ? votes > step.b : votes == step.b;
    }

    private void years(int many) {
        if (m.year + many > 9999) {
            tally[0]++;
            return;
        }
        for (int k = 0; k < many; k++) {
            int next = m.nextYear(m.unmade, m.exempt);
            tally[next == m.unmade ? 0 : 2]++;
            m.unmade = next;
            m.year++;
            tally[1]++;
        }
    }

    private void joke(int open) {
        List<Integer> list = new ArrayList<>();
        for (int t = 0; t < m.n; t++) {
            if (Model.in(open, t)) {
                list.add(t);
            }
        }
        if (list.isEmpty()) {
            tally[0]++;
            return;
        }
        s = (s * 2971 + 10663) % 65536;
        m.unmade |= 1 << list.get((s / 8) % list.size());
        tally[2]++;
        tally[3]++;
    }
}
