/** Promises 55 and 56: none, three and one more; what a MARK keeps, and what it does not. */
final class EdgesMarksTest {
    public static void main(String[] args) {
        noneAndThree();
        backWithoutOne();
        markOneTooMany();
        takenBackToTheLatest();
        keptAsTheyAre();
        notKept();
        ofNothingAndOfAll();
        Kit.end("EdgesMarksTest");
    }

    /** How many there are, and how many are left. */
    private static void noneAndThree() {
        Kit k = new Kit();
        for (int round = 0; round < 5; round++) {
            for (int up = 0; up <= 3; up++) {
                k.refused("back() with none", k.it.back(), 8);
                for (int n = 1; n <= up; n++) {
                    k.fine("mark()", k.it.mark(), n);
                }
                for (int n = up - 1; n >= 0; n--) {
                    k.fine("back()", k.it.back(), n);
                }
            }
            k.refused("back() with none", k.it.back(), 8);
        }
        k.it.mark();
        k.it.mark();
        k.it.back();
        k.fine("mark()", k.it.mark(), 2);
        k.fine("mark()", k.it.mark(), 3);
        k.refused("mark()", k.it.mark(), 7);
        k.refused("mark()", k.it.mark(), 7);
        k.fine("back()", k.it.back(), 2);
        k.fine("mark()", k.it.mark(), 3);
    }

    /** 8, and nothing changes. */
    private static void backWithoutOne() {
        Edges.refused("back() of a new one", Edges::bare, Unmade::back, 8);
        Edges.refused("back() with none", () -> {
            Kit k = Edges.rich();
            k.it.back();
            k.it.back();
            return k;
        }, Unmade::back, 8);
    }

    /** 7: a fourth; the three stay as they were. */
    private static void markOneTooMany() {
        Edges.refused("a fourth mark()", Edges::full, Unmade::mark, 7);
        Edges.refused("a fourth mark() of another city", () -> {
            Kit k = Edges.full();
            k.it.city(20);
            k.it.unmake(3);
            return k;
        }, Unmade::mark, 7);
    }

    /** All is taken back to the latest MARK, which is gone then. */
    private static void takenBackToTheLatest() {
        for (int marks = 0; marks < 3; marks++) {
            int many = marks;
            Edges.alike("behind mark() and back()", () -> {
                Kit k = scene(many);
                k.it.mark();
                k.it.back();
                return k;
            }, () -> scene(many));
            Edges.alike("behind deeds taken back", () -> {
                Kit k = scene(many);
                k.it.mark();
                deeds(k);
                k.it.back();
                return k;
            }, () -> scene(many), Edges.Look.LIVED);
            Edges.alike("behind another city taken back", () -> {
                Kit k = scene(many);
                k.it.mark();
                k.it.city(0);
                k.city("thing zed worth 9 exempt;thing nail;makes nail from zed;work w needs nail;voter v;hates v nail 9;law 2;ahead zed nail;");
                k.it.centuries(0);
                deeds(k);
                k.it.back();
                return k;
            }, () -> {
                Kit k = scene(many);
                // the tape and the fault are not taken back
                k.it.mark();
                k.it.city(0);
                k.it.back();
                return k;
            }, Edges.Look.LIVED);
        }
    }

    private static Kit scene(int marks) {
        Kit k = Kit.of(TextsTest.TOWN);
        k.centuries("joke;year 2;spare lamp;");
        k.it.year(1);
        for (int m = 0; m < marks; m++) {
            k.it.mark();
            k.it.grudge(m, 4 + m, 7);
            k.it.exempt(m, true);
        }
        k.it.rule(1);
        return k;
    }

    private static void deeds(Kit k) {
        for (int t = 0; t < 8; t++) {
            k.it.grudge(t % 3, t, (t * 5 + 2) % 10);
            k.it.unmake(t);
            k.it.exempt(t, t % 2 == 0);
            k.it.remake(7 - t);
        }
        k.it.rule(2);
        k.it.year(4);
        k.it.live(9);
    }

    /** The CITY with all that became of it, the CENTURIES: each of them by itself. */
    private static void keptAsTheyAre() {
        Kit k = Kit.of(TextsTest.TOWN);
        k.centuries("unmake cart;");
        k.it.mark();
        k.it.rule(2);
        k.it.back();
        k.fine("the LAW", k.it.many(4), 0);
        k.it.mark();
        k.it.grudge(2, 7, 9);
        k.it.back();
        k.fine("a grudge", k.it.hate(2, 7), 0);
        k.fine("and the vote by it", k.it.vote(), 0);
        k.it.mark();
        k.it.unmake(0);
        k.it.back();
        k.fine("what is unmade", k.it.many(6), 255);
        k.it.mark();
        k.it.exempt(0, true);
        k.it.back();
        k.fine("what is exempt", k.it.many(9), 8);
        k.it.mark();
        k.it.year(2);
        k.it.back();
        k.fine("the YEAR", k.it.many(5), 0);
        k.it.mark();
        k.centuries("joke;joke;");
        k.it.back();
        k.fine("the CENTURIES", k.it.live(0), 1);
        k.fine("of one step", k.it.many(7), 128);
        k.it.mark();
        k.it.remake(7);
        k.it.back();
        k.fine("what was unmade", k.it.many(7), 128);
        k.it.mark();
        k.city("thing q;work r needs q;voter s;");
        k.it.back();
        k.fine("the names", k.centuries("unmake nail;when done cross;end;"), 2);
        k.it.mark();
        k.it.city(0);
        k.it.mark();
        k.it.back();
        k.refused("no CENTURIES at the second MARK", k.it.live(0), 8);
        k.it.back();
        k.fine("but at the first", k.it.live(0), 2);
    }

    /** Not the TRAYS, the tape, STATUS, what fault() tells, the FRACTION, the AGENDA, nor what was LIVED. */
    private static void notKept() {
        Kit k = Kit.of("thing a;thing b;ahead a b;");
        k.it.tray(0, 0, 2);
        k.it.mark();
        k.it.write(0, 1, 7);
        k.it.tray(1, 2, 1);
        k.it.agenda(2);
        k.it.aheadOdds(0, 1);
        k.centuries("joke;");
        k.it.live(0);
        k.centuries("Q");
        k.feed("thing c;");
        k.fine("back()", k.it.back(), 0);
        k.fine("a number on a tray", k.it.read(0, 1), 7);
        k.fine("a tray laid since", k.it.read(1, 0), 0);
        k.fine("the AGENDA", k.it.agendaAt(0), 1);
        Kit.due("top", k.it.top(), 1);
        Kit.due("bottom", k.it.bottom(), 1);
        k.fine("what was LIVED", k.it.lived(3), 1);
        Kit.due("fault(0)", k.it.fault(0), 1);
        Kit.due("fault(1)", k.it.fault(1), 0);
        k.fine("the tape", k.it.city(8), 1);
    }

    private static void ofNothingAndOfAll() {
        Kit k = new Kit();
        k.fine("mark() of nothing", k.it.mark(), 1);
        k.fine("all", k.city(Edges.fullText()), 12);
        k.centuries(Edges.fullStory());
        k.it.year(12);
        k.fine("mark() of all", k.it.mark(), 2);
        k.fine("back() to all", k.it.back(), 1);
        k.fine("all", k.it.many(0), 12);
        k.fine("the YEAR", k.it.many(5), 12);
        k.fine("back() to nothing", k.it.back(), 0);
        for (int what = 0; what < 12; what++) {
            k.fine("nothing", k.it.many(what), 0);
        }
        k.refused("no CENTURIES", k.it.live(0), 8);
        Edges.alike("behind all taken back", () -> {
            Kit one = new Kit();
            one.it.mark();
            one.city(Edges.fullText());
            one.centuries(Edges.fullStory());
            one.it.year(12);
            one.it.back();
            return one;
        }, () -> {
            Kit one = new Kit();
            one.it.city(0);
            // as new, but for fault()
            return one;
        });
    }
}
