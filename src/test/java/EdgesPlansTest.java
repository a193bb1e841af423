/** Promises 35 to 44: plans, at their least and greatest, where there is none, and what they leave as it was. */
final class EdgesPlansTest {
    private static final int LEAST = Edges.LEAST;
    private static final int MOST = Edges.MOST;
    private static final int[] NO_WORKS = {LEAST, LEAST + 1, -6, -2, -1, 3, 4, 5, 6, 7, 32, 256, MOST - 1, MOST};
    private static final int[] NO_THINGS = {LEAST, LEAST + 1, -12, -2, -1, 8, 9, 11, 12, 13, 31, 32, 256, MOST - 1, MOST};

    public static void main(String[] args) {
        keepRefused();
        keepNone();
        keepFewest();
        keepAll();
        keepLeastNumber();
        strikeRefused();
        strikeFewest();
        agendaRefused();
        agendaOneToSix();
        agendaFirstByThings();
        agendaAtWhatIsTold();
        gameRefused();
        gameLeastAndGreatest();
        gameTurns();
        firstMoves();
        againRefused();
        againFewest();
        againLeastNumber();
        plansChangeNothing();
        Kit.end("EdgesPlansTest");
    }

    private static String things(int many, String behind) {
        StringBuilder b = new StringBuilder();
        for (int t = 0; t < many; t++) {
            b.append("thing ").append((char) ('a' + t)).append(behind).append(';');
        }
        return b.toString();
    }

    // ---- 35 and 36: keep

    /** 2; 5; 8, the first of these that holds. */
    private static void keepRefused() {
        for (int w : NO_WORKS) {
            for (int years : new int[] {LEAST, -1, 0, 12, 13, MOST}) {
                Edges.refused("keep(" + w + ", " + years + ")", Edges::rich, x -> x.keep(w, years), 2);
                Edges.refused("keepSet(" + w + ", " + years + ")", Edges::rich, x -> x.keepSet(w, years), 2);
            }
        }
        Edges.refused("keep(6, 0) of six", Edges::full, x -> x.keep(6, 0), 2);
        Edges.refused("keepSet(6, 0) of six", Edges::full, x -> x.keepSet(6, 0), 2);
        Edges.refused("keep(0, 0) of none", Edges::bare, x -> x.keep(0, 0), 2);
        for (int years : new int[] {LEAST, LEAST + 1, -12, -2, -1, 13, 14, 99, 100, 256, MOST - 1, MOST}) {
            for (int w = 0; w < 3; w++) {
                int work = w;
                // cross can't be DONE: 5 ahead of 8
                Edges.refused("keep(" + w + ", " + years + ")", Edges::rich, x -> x.keep(work, years), 5);
                Edges.refused("keepSet(" + w + ", " + years + ")", Edges::rich, x -> x.keepSet(work, years), 5);
            }
        }
    }

    /** 8: it can't be kept, not now already; 0 where it is kept of itself. */
    private static void keepNone() {
        for (int years = 0; years <= 12; years++) {
            int n = years;
            Edges.refused("keep(1, " + n + ") of what can't be DONE", Edges::rich, x -> x.keep(1, n), 8);
            Edges.refused("keepSet(1, " + n + ") of what can't be DONE", Edges::rich, x -> x.keepSet(1, n), 8);
            Edges.asks("keep(0, " + n + ")", Edges::rich, x -> x.keep(0, n), 0);
            Edges.asks("keepSet(0, " + n + ")", Edges::rich, x -> x.keepSet(0, n), 0);
        }
    }

    /** Now and behind each of these YEARS (0 to 12). */
    private static void keepFewest() {
        for (int many = 1; many <= 12; many++) {
            Kit k = EdgesFallsTest.queue(many);
            for (int years = 0; years <= 12; years++) {
                boolean lost = years >= many;
                k.fine("keep(last of " + many + ", " + years + ")", k.it.keep(1, years), lost ? 1 : 0);
                k.fine("keepSet(last of " + many + ", " + years + ")", k.it.keepSet(1, years), lost ? 1 << many - 1 : 0);
                k.fine("keep(first of " + many + ", " + years + ")", k.it.keep(0, years), years > 0 ? 1 : 0);
                k.fine("keepSet(first of " + many + ", " + years + ")", k.it.keepSet(0, years), years > 0 ? 1 : 0);
            }
            k.fine("the YEAR stays", k.it.many(5), 0);
            k.fine("nothing is EXEMPT", k.it.many(9), 0);
        }
    }

    /** All of twelve, that are needed and hated: none can be spared. */
    private static void keepAll() {
        StringBuilder b = new StringBuilder(things(12, ""));
        b.append("work w needs a b c d e f g h i j k l;voter u;voter v;");
        for (int t = 0; t < 12; t++) {
            b.append("hates ").append(t < 6 ? "u " : "v ").append((char) ('a' + t)).append(" 1;");
        }
        Kit k = Kit.of(b.toString());
        k.fine("keep(0, 0)", k.it.keep(0, 0), 0);
        for (int years = 1; years <= 12; years++) {
            k.fine("keep(0, " + years + ")", k.it.keep(0, years), 12);
            k.fine("keepSet(0, " + years + ")", k.it.keepSet(0, years), 4095);
        }
        // THINGS more: what is EXEMPT already counts not
        for (int t = 0; t < 12; t++) {
            k.it.exempt(t, true);
            k.fine("keep with " + (t + 1) + " EXEMPT", k.it.keep(0, 12), 11 - t);
            k.fine("keepSet with " + (t + 1) + " EXEMPT", k.it.keepSet(0, 12), 4095 & -(2 << t));
        }
        for (int t = 0; t < 12; t++) {
            k.it.exempt(t, false);
        }
        k.it.year(1);
        k.refused("can't be DONE", k.it.keep(0, 0), 8);
    }

    /** Of several sets the least as a number. */
    private static void keepLeastNumber() {
        // one or the other way will do, the first is the least
        Kit k = Kit.of(things(3, "") + "makes c from a;makes c from b;work w needs c;voter u;voter v;hates u a 1;hates v b 1;");
        k.fine("for a YEAR none", k.it.keepSet(0, 1), 0);
        k.fine("for two one of both", k.it.keepSet(0, 2), 1);
        k.fine("one", k.it.keep(0, 2), 1);
        // to spare what is hated less may be enough, as its voter is left with nothing
        Kit other = Kit.of("thing b;thing a;thing c;voter v;hates v a 9;hates v b 1;hates v c 1;work w needs c;");
        other.fine("c is named last", other.it.keepSet(0, 2), 0);
        other.fine("c itself", other.it.keepSet(0, 3), 4);
    }

    // ---- 37 and 38: strike

    /** 2; 8: it can't be ended. */
    private static void strikeRefused() {
        for (int w : NO_WORKS) {
            Edges.refused("strike(" + w + ")", Edges::rich, x -> x.strike(w), 2);
            Edges.refused("strikeSet(" + w + ")", Edges::rich, x -> x.strikeSet(w), 2);
        }
        Edges.refused("strike(6) of six", Edges::full, x -> x.strike(6), 2);
        Edges.refused("strikeSet(6) of six", Edges::full, x -> x.strikeSet(6), 2);
        Edges.refused("strike(0) of none", Edges::bare, x -> x.strike(0), 2);
        String spared = things(12, " exempt") + "work w needs a b c d e f g h i j k l;";
        Edges.refused("strike of what is EXEMPT", () -> Kit.of(spared), x -> x.strike(0), 8);
        Edges.refused("strikeSet of what is EXEMPT", () -> Kit.of(spared), x -> x.strikeSet(0), 8);
        String way = "thing a exempt;thing b;thing c;makes c from a;makes c from b;work w needs a;work x needs b;work y needs c;";
        Edges.refused("strike of what has a way that is EXEMPT", () -> Kit.of(way), x -> x.strike(0), 8);
        Kit k = Kit.of(way);
        k.fine("x", k.it.strikeSet(1), 2);
        k.fine("y by c itself", k.it.strikeSet(2), 4);
        k.it.exempt(2, true);
        k.refused("y not any more", k.it.strike(2), 8);
    }

    /** 0: it can't be DONE now; the fewest, of several the least as a number. */
    private static void strikeFewest() {
        Edges.asks("strike of what can't be DONE", Edges::rich, x -> x.strike(1), 0);
        Edges.asks("strikeSet of what can't be DONE", Edges::rich, x -> x.strikeSet(1), 0);
        Edges.asks("strike of trade", Edges::rich, x -> x.strike(2), 1);
        Edges.asks("strikeSet of trade: nail", Edges::rich, x -> x.strikeSet(2), 1);
        Edges.asks("strikeSet of evening: lamp", Edges::rich, x -> x.strikeSet(0), 4);
        // the last from each of the eleven others, EXEMPT itself
        StringBuilder b = new StringBuilder(things(11, "") + "thing l exempt;");
        for (int t = 0; t < 11; t++) {
            b.append("makes l from ").append((char) ('a' + t)).append(';');
        }
        Kit k = Kit.of(b.append("work w needs l;").toString());
        k.fine("all eleven", k.it.strike(0), 11);
        k.fine("all eleven", k.it.strikeSet(0), 2047);
        for (int t = 0; t < 11; t++) {
            k.it.unmake(t);
            k.fine("those that are left", k.it.strikeSet(0), 2047 & -(2 << t));
            k.fine("so many", k.it.strike(0), 10 - t);
        }
        Kit first = Kit.of(things(12, "") + "work w needs l k j i;work x needs a b c d e f g h i j k l;");
        first.fine("of several the least", first.it.strikeSet(0), 256);
        first.fine("of all the first", first.it.strikeSet(1), 1);
        Kit pairs = Kit.of(things(4, "") + "thing e exempt;makes e from a b;makes e from c d;work w needs e;");
        pairs.fine("one of each", pairs.it.strike(0), 2);
        pairs.fine("the first of each", pairs.it.strikeSet(0), 5);
        pairs.it.exempt(0, true);
        pairs.fine("EXEMPT ones not", pairs.it.strikeSet(0), 6);
    }

    // ---- 39 and 40: agenda, agendaAt

    /** 5: no such set, too many, none; 9: not all STAND. */
    private static void agendaRefused() {
        for (int set : new int[] {LEAST, LEAST + 1, LEAST + 256, -256, -2, -1, 0, 127, 191, 254, 255, 256, 257, 512, 4095, 4096, 65536, MOST - 1, MOST}) {
            Edges.refused("agenda(" + set + ")", Edges::rich, x -> x.agenda(set), 5);
        }
        for (int set : new int[] {LEAST, -1, 0, 127, 4032 + 64 - 1, 4095, 4096, 4097, MOST}) {
            Edges.refused("agenda(" + set + ") of twelve", Edges::full, x -> x.agenda(set), 5);
        }
        for (int set : new int[] {LEAST, -1, 0, 1, 2, 4095, MOST}) {
            Edges.refused("agenda(" + set + ") of none", Edges::bare, x -> x.agenda(set), 5);
        }
        for (int set : new int[] {2, 16, 18, 3, 17, 63, 252}) {
            Edges.refused("agenda(" + set + ") with some that do not STAND", Edges::rich, x -> x.agenda(set), 9);
        }
    }

    /** 1 to 6 of them: WORKS together behind each YEAR. */
    private static void agendaOneToSix() {
        StringBuilder b = new StringBuilder(things(12, ""));
        for (int w = 0; w < 6; w++) {
            b.append("work w").append((char) ('a' + w)).append(" needs l;");
        }
        String text = b.toString();
        for (int many = 1; many <= 6; many++) {
            int set = (1 << many) - 1;
            int due = 6 * many;
            Edges.asks("agenda of " + many, () -> Kit.of(text), x -> x.agenda(set), due, Edges.Look.LIST);
            Kit k = Kit.of(text);
            k.fine("agenda of the last " + many, k.it.agenda(4095 & -(1 << 12 - many)), 6 * (many - 1));
            for (int i = 0; i < many; i++) {
                k.fine("agendaAt(" + i + ")", k.it.agendaAt(i), 12 - many + i);
            }
            k.refused("agendaAt(" + many + ")", k.it.agendaAt(many), 8);
        }
        Kit seven = Kit.of(text);
        seven.refused("of seven", seven.it.agenda(127), 5);
        Kit none = Kit.of("thing a;");
        none.fine("no WORKS", none.it.agenda(1), 0);
        Kit spared = Kit.of("thing a exempt;thing b;work w needs b;");
        spared.fine("EXEMPT ones", spared.it.agenda(3), 1);
        spared.fine("the first", spared.it.agendaAt(0), 0);
        // what has FALLEN by then is UNMADE, too
        Kit fall = Kit.of("thing a;thing b;makes b from a;work w needs a;work x needs b;");
        fall.fine("b first", fall.it.agenda(3), 1);
        fall.fine("b first", fall.it.agendaAt(0), 1);
        Kit alike = Kit.of("thing a;thing b;makes b from a;work x needs b;");
        alike.fine("either", alike.it.agenda(3), 0);
        alike.fine("a first, b that has FALLEN then", alike.it.agendaAt(0), 0);
        alike.fine("b", alike.it.agendaAt(1), 1);
    }

    /** Of several orders the first by THINGS. */
    private static void agendaFirstByThings() {
        Kit k = Kit.of(things(12, ""));
        k.fine("six that nothing needs", k.it.agenda(0b101101101000), 0);
        int[] order = {3, 5, 6, 8, 9, 11};
        for (int i = 0; i < 6; i++) {
            k.fine("agendaAt(" + i + ")", k.it.agendaAt(i), order[i]);
        }
        Kit two = Kit.of(things(4, "") + "work w needs a;work x needs c;");
        two.fine("b and d, then a and c", two.it.agenda(15), 2 + 2 + 1);
        int[] due = {1, 3, 0, 2};
        for (int i = 0; i < 4; i++) {
            two.fine("agendaAt(" + i + ")", two.it.agendaAt(i), due[i]);
        }
    }

    /** The k-th by agenda() latest with STATUS 0 (8: no such). */
    private static void agendaAtWhatIsTold() {
        for (int i : new int[] {LEAST, LEAST + 1, -2, -1, 4, 5, 6, 7, 12, MOST - 1, MOST}) {
            Edges.refused("agendaAt(" + i + ") of four", Edges::rich, x -> x.agendaAt(i), 8);
        }
        for (int i : new int[] {LEAST, -1, 0, 1, 5, 6, MOST}) {
            Edges.refused("agendaAt(" + i + ") ahead of any", Edges::full, x -> x.agendaAt(i), 8);
        }
        // lamp last, and nail when trade has ended by boat
        int[] due = {6, 0, 5, 2};
        for (int i = 0; i < 4; i++) {
            int place = i;
            Edges.asks("agendaAt(" + i + ")", Edges::rich, x -> x.agendaAt(place), due[i]);
        }
        Kit k = Edges.rich();
        k.fine("one", k.it.agenda(8), 1);
        k.refused("none", k.it.agenda(0), 5);
        k.refused("not all STAND", k.it.agenda(2), 9);
        k.fine("the latest with STATUS 0", k.it.agendaAt(0), 3);
        k.refused("has just one", k.it.agendaAt(1), 8);
        k.it.unmake(0);
        k.it.back();
        k.fine("whatever came since", k.it.agendaAt(0), 3);
    }

    // ---- 41 and 42: game, firstMove

    /** 5: a set with what there is none of; turns but 1 to 4. */
    private static void gameRefused() {
        for (int works : new int[] {LEAST, LEAST + 1, -8, -2, -1, 8, 9, 15, 16, 63, 64, 256, MOST - 1, MOST}) {
            for (int turns : new int[] {0, 1, 4, 5}) {
                Edges.refused("game(" + works + ", " + turns + ")", Edges::rich, x -> x.game(works, turns), 5);
                Edges.refused("firstMove(" + works + ", " + turns + ")", Edges::rich, x -> x.firstMove(works, turns), 5);
            }
        }
        for (int turns : new int[] {LEAST, LEAST + 1, -4, -2, -1, 0, 5, 6, 256, MOST - 1, MOST}) {
            for (int works : new int[] {0, 7}) {
                Edges.refused("game(" + works + ", " + turns + ")", Edges::rich, x -> x.game(works, turns), 5);
                Edges.refused("firstMove(" + works + ", " + turns + ")", Edges::rich, x -> x.firstMove(works, turns), 5);
            }
        }
        Edges.refused("game(64, 1) of six", Edges::full, x -> x.game(64, 1), 5);
        Edges.refused("firstMove(64, 1) of six", Edges::full, x -> x.firstMove(64, 1), 5);
        Edges.refused("game(1, 1) of none", Edges::bare, x -> x.game(1, 1), 5);
        Edges.refused("firstMove(1, 1) of none: 5 ahead of 8", Edges::bare, x -> x.firstMove(1, 1), 5);
        Edges.refused("firstMove(0, 0) of none: 5 ahead of 8", Edges::bare, x -> x.firstMove(0, 0), 5);
        for (int turns = 1; turns <= 4; turns++) {
            int n = turns;
            Edges.asks("game(0, " + n + ") of none", Edges::bare, x -> x.game(0, n), 0);
            Edges.refused("firstMove(0, " + n + ") of none: he passes", Edges::bare, x -> x.firstMove(0, n), 8);
        }
    }

    /** As many as six more or less; STATUS tells NONE from -1. */
    private static void gameLeastAndGreatest() {
        StringBuilder b = new StringBuilder("thing a exempt;thing b;thing c;thing d;thing e;");
        for (int w = 0; w < 6; w++) {
            b.append("work w").append((char) ('a' + w)).append(" needs a;");
        }
        for (int works = 0; works < 64; works++) {
            int due = 2 * Integer.bitCount(works) - 6;
            for (int turns = 1; turns <= 4; turns++) {
                Kit k = Kit.of(b.toString());
                k.fine("game(" + works + ", " + turns + ")", k.it.game(works, turns), due);
                k.fine("firstMove(" + works + ", " + turns + "): all are as good", k.it.firstMove(works, turns), 1);
            }
        }
        Kit k = Kit.of("thing a exempt;work w needs a;");
        Kit.due("-1", k.it.game(0, 1), -1);
        Kit.due("with STATUS 0", k.it.status(), 0);
        Kit.due("NONE", k.it.game(0, 5), -1);
        Kit.due("with STATUS 5", k.it.status(), 5);
    }

    /** Two by turns; who can't, passes; he who can must. */
    private static void gameTurns() {
        // four, each needed by a work of its own; who has a and b?
        String four = things(4, "") + "work w needs a;work x needs b;work y needs c;work z needs d;";
        int[] mine = {1, 0, 1, 0};
        for (int turns = 1; turns <= 4; turns++) {
            Kit k = Kit.of(four);
            k.fine("game(3, " + turns + ")", k.it.game(3, turns), mine[turns - 1]);
            // by four turns all are unmade, whatever comes first
            k.fine("he unmakes c", k.it.firstMove(3, turns), turns < 4 ? 2 : 0);
        }
        // one thing, and then both pass
        for (int turns = 1; turns <= 4; turns++) {
            Kit one = Kit.of("thing a;work w needs a;");
            one.fine("he must unmake what he wants", one.it.game(1, turns), 0);
            one.fine("there is but one", one.it.firstMove(1, turns), 0);
            Kit two = Kit.of("thing a;thing b;work w needs a;");
            two.fine("b first, then a", two.it.game(1, turns), turns == 1 ? 1 : 0);
            two.fine("b first, or as good", two.it.firstMove(1, turns), turns == 1 ? 1 : 0);
        }
        Kit spared = Kit.of("thing a exempt;thing b exempt;work w needs a;work x needs b;");
        spared.fine("all pass", spared.it.game(1, 4), 0);
        spared.refused("he passes", spared.it.firstMove(1, 1), 8);
        Kit fallen = Kit.of("thing a;thing b;makes b from a;thing c exempt;work w needs c;");
        fallen.it.unmake(0);
        fallen.fine("what has FALLEN can't be unmade", fallen.it.game(1, 4), 1);
        fallen.refused("he passes", fallen.it.firstMove(1, 4), 8);
    }

    /** Of several as good the first; EXEMPT, UNMADE and FALLEN ones not. */
    private static void firstMoves() {
        Kit k = Kit.of(things(12, "") + "work w needs l;work x needs k;");
        k.fine("of eleven the first", k.it.firstMove(1, 1), 10);
        k.fine("of ten the first", k.it.firstMove(3, 1), 0);
        k.it.exempt(0, true);
        k.fine("the first is EXEMPT", k.it.firstMove(3, 1), 1);
        k.it.unmake(1);
        k.fine("the second is UNMADE", k.it.firstMove(3, 1), 2);
        // to have w he must end what the other would end it by
        Kit reply = Kit.of("thing a;thing b;thing c exempt;thing d;thing e;makes d from c b;makes e from a;work w needs d;work x needs e;work y needs e;");
        for (int turns = 1; turns <= 4; turns++) {
            Model model = asModel();
            ModelPlans plans = new ModelPlans(model);
            for (int works = 0; works < 8; works++) {
                reply.fine("game(" + works + ", " + turns + ")", reply.it.game(works, turns), plans.game(works, 0, turns, true));
                reply.fine("firstMove(" + works + ", " + turns + ")", reply.it.firstMove(works, turns), plans.firstMove(works, turns));
            }
        }
        // a alone keeps the other from unmaking c, that is his: b is as good but for that
        Kit forced = Kit.of("thing a;thing b;work w needs a;work x needs a;work y needs b;");
        forced.fine("he wants y, the other x and w", forced.it.game(4, 2), 0);
        forced.fine("a goes first", forced.it.firstMove(4, 2), 0);
        forced.fine("with three turns", forced.it.game(3, 3), 0);
        Kit last = Kit.of("thing a;thing b;thing c;work w needs b;work x needs c;");
        last.fine("a goes, the other ends w or x", last.it.game(3, 2), 1);
        last.fine("a first", last.it.firstMove(3, 2), 0);
        last.fine("of w alone: c goes, then b", last.it.game(1, 2), 0);
        last.fine("a first would leave x", last.it.firstMove(1, 2), 2);
        // nail, lamp, boat, cart: each ends one of both that can be DONE
        Edges.asks("firstMove(7, 1)", Edges::rich, x -> x.firstMove(7, 1), 0);
        Edges.asks("game(7, 1)", Edges::rich, x -> x.game(7, 1), 1);
        Edges.asks("firstMove(1, 1)", Edges::rich, x -> x.firstMove(1, 1), 0);
        Edges.asks("game(1, 1)", Edges::rich, x -> x.game(1, 1), 1);
        Edges.asks("game(0, 1)", Edges::rich, x -> x.game(0, 1), -1);
        Edges.asks("game(2, 4)", Edges::rich, x -> x.game(2, 4), 0);
    }

    private static Model asModel() {
        Model m = new Model();
        m.n = 5;
        m.exempt = 4;
        m.makings.add(new int[] {3, 6});
        m.makings.add(new int[] {4, 1});
        m.works.add(8);
        m.works.add(16);
        m.works.add(16);
        return m;
    }

    // ---- 43 and 44: again

    /** 2; 8: it can't be had. */
    private static void againRefused() {
        for (int t : NO_THINGS) {
            Edges.refused("again(" + t + ")", Edges::rich, x -> x.again(t), 2);
            Edges.refused("againSet(" + t + ")", Edges::rich, x -> x.againSet(t), 2);
        }
        Edges.refused("again(12) of twelve", Edges::full, x -> x.again(12), 2);
        Edges.refused("againSet(12) of twelve", Edges::full, x -> x.againSet(12), 2);
        Edges.refused("again(0) of none", Edges::bare, x -> x.again(0), 2);
        for (int t : new int[] {1, 4}) {
            Edges.refused("again(" + t + ") of what is UNMADE, has FALLEN", Edges::rich, x -> x.again(t), 8);
            Edges.refused("againSet(" + t + ") of what is UNMADE, has FALLEN", Edges::rich, x -> x.againSet(t), 8);
        }
        Edges.refused("again of what could be made, but is UNMADE", () -> {
            Kit k = EdgesFallsTest.chain();
            k.it.unmake(1);
            return k;
        }, x -> x.again(1), 8);
    }

    /** 0 if it has no MAKINGS and is not UNMADE; up to eleven. */
    private static void againFewest() {
        for (int t : new int[] {0, 3, 6}) {
            Edges.asks("again(" + t + ") without MAKINGS", Edges::rich, x -> x.again(t), 0);
            Edges.asks("againSet(" + t + ") without MAKINGS", Edges::rich, x -> x.againSet(t), 0);
        }
        Edges.asks("again of boat", Edges::rich, x -> x.again(5), 2);
        Edges.asks("againSet of boat", Edges::rich, x -> x.againSet(5), 12);
        Kit k = EdgesFallsTest.chain();
        for (int t = 0; t < 12; t++) {
            k.fine("again(" + t + ") of a chain", k.it.again(t), t);
            k.fine("againSet(" + t + ") of a chain", k.it.againSet(t), (1 << t) - 1);
        }
        k.it.unmake(5);
        for (int t = 0; t < 12; t++) {
            if (t < 5) {
                k.fine("again(" + t + ") ahead of the gap", k.it.again(t), t);
            } else {
                k.refused("again(" + t + ") behind the gap", k.it.again(t), 8);
            }
        }
        Kit shared = Kit.of(things(5, "") + "makes b from a;makes c from b;makes d from b;makes e from c d;");
        shared.fine("what serves twice counts once", shared.it.again(4), 4);
        Kit full = Edges.full();
        full.fine("of four ways the first", full.it.againSet(11), 1);
        Kit last = Kit.of(things(3, "") + "makes b from a;".repeat(15) + "makes c from a;");
        last.fine("the sixteenth", last.it.againSet(2), 1 << 15);
        last.fine("of fifteen alike the first", last.it.againSet(1), 1);
    }

    /** Of several sets the least as a number, whichever making comes last. */
    private static void againLeastNumber() {
        Kit k = Kit.of(things(4, "") + "makes d from b;makes d from c;makes c from a;makes b from a;");
        k.fine("0 with 3, or 1 with 2", k.it.againSet(3), 6);
        k.it.unmake(2);
        k.fine("without c", k.it.againSet(3), 9);
        Kit first = Kit.of(things(4, "") + "makes d from b;makes b from a;makes d from c;makes c from a;");
        first.fine("0 with 1, or 2 with 3", first.it.againSet(3), 3);
        Kit mixed = Kit.of(things(5, "") + "makes e from b c;makes b from a;makes c from a;makes e from d;makes d from c;makes c from a;");
        mixed.fine("three either way: 0, 1 and 2 are the least", mixed.it.againSet(4), 7);
        mixed.it.unmake(1);
        mixed.fine("3, 4, and 2 of two alike", mixed.it.againSet(4), 4 | 8 | 16);
        Kit fewer = Kit.of(things(4, "") + "makes c from a;makes d from c;makes d from a b;");
        fewer.fine("one, though a greater number", fewer.it.againSet(3), 4);
        fewer.it.unmake(1);
        fewer.fine("two, without b", fewer.it.againSet(3), 3);
        Kit ring = Kit.of(things(3, "") + "makes a from b;makes b from a;makes b from c;");
        ring.fine("not from itself", ring.it.againSet(0), 5);
        ring.it.unmake(2);
        ring.refused("from each other only", ring.it.again(0), 8);
    }

    /** Plans are none of what is done. */
    private static void plansChangeNothing() {
        Edges.asks("keep", Edges::full, x -> x.keep(0, 12) >= 0 ? 1 : 0, 1);
        // nail by eight, then boat by seven
        Edges.asks("keepSet", Edges::rich, x -> x.keepSet(2, 12), 33);
        Edges.asks("strike", Edges::full, x -> x.strike(5), 1);
        Edges.asks("strikeSet", Edges::full, x -> x.strikeSet(5), 2048);
        Edges.asks("agenda", Edges::full, x -> x.agenda(63) >= 0 ? 1 : 0, 1, Edges.Look.LIST);
        Edges.asks("game", Edges::full, x -> x.game(21, 4) >= -6 ? 1 : 0, 1);
        Edges.asks("firstMove", Edges::full, x -> x.firstMove(21, 4) >= 0 ? 1 : 0, 1);
        Edges.asks("again", Edges::full, x -> x.again(7), 1);
        Edges.asks("againSet", Edges::full, x -> x.againSet(7), 1 << 4);
    }
}
