/** Promises 13 to 18: what a city tells, at the edges of its numbers, of an empty and of a full one. */
final class EdgesToldTest {
    private static final int LEAST = Edges.LEAST;
    private static final int MOST = Edges.MOST;
    private static final int[] FAR = {LEAST, LEAST + 1, -13, -2, -1, 16, 17, 32, 99, 256, MOST - 1, MOST};

    public static void main(String[] args) {
        many();
        manyOfRich();
        manyOfFull();
        setsOfStandingAndFallen();
        thing();
        making();
        needs();
        hate();
        copyWorthTrays();
        copyWorthPlaces();
        copyWorthOfWhatStands();
        Kit.end("EdgesToldTest");
    }

    // ---- 13: many

    /** What 0 to 11; others 5. */
    private static void many() {
        for (int what : new int[] {LEAST, LEAST + 1, -2, -1, 12, 13, 256, MOST - 1, MOST}) {
            Edges.refused("many(" + what + ")", Edges::bare, x -> x.many(what), 5);
            Edges.refused("many(" + what + ") of something", Edges::rich, x -> x.many(what), 5);
            Edges.refused("many(" + what + ") of all", Edges::full, x -> x.many(what), 5);
        }
    }

    private static void manyOfRich() {
        int[] due = {8, 5, 3, 3, 1, 1, 237, 2, 16, 72, 5, 26};
        for (int w = 0; w < 12; w++) {
            int what = w;
            Edges.asks("many(" + w + ")", Edges::rich, x -> x.many(what), due[w]);
        }
    }

    private static void manyOfFull() {
        int[] due = {12, 16, 6, 6, 2, 0, 4095, 0, 0, 0, 63, 1188};
        for (int w = 0; w < 12; w++) {
            int what = w;
            Edges.asks("many(" + w + ") of all", Edges::full, x -> x.many(what), due[w]);
        }
        Kit k = Edges.full();
        for (int t = 0; t < 12; t++) {
            k.it.unmake(t);
        }
        int[] gone = {12, 16, 6, 6, 2, 0, 0, 4095, 0, 0, 0, 0};
        for (int what = 0; what < 12; what++) {
            k.fine("many(" + what + ") of all unmade", k.it.many(what), gone[what]);
        }
        for (int t = 0; t < 12; t++) {
            k.it.exempt(t, true);
        }
        k.fine("all are exempt", k.it.many(9), 4095);
        k.fine("all are unmade still", k.it.many(7), 4095);
    }

    /** STANDS, UNMADE, FALLEN: each THING is one of them alone; THINGS made only from each other do not stand. */
    private static void setsOfStandingAndFallen() {
        Kit ring = Kit.of("thing a;thing b;thing c;makes a from b;makes b from c;makes c from a;work w needs a;");
        ring.fine("none stands", ring.it.many(6), 0);
        ring.fine("all have fallen", ring.it.many(8), 7);
        ring.fine("no worth", ring.it.many(11), 0);
        ring.fine("no work", ring.it.many(10), 0);
        Kit pair = Kit.of("thing a;thing b;makes a from b;makes b from a;thing c;makes b from a c;");
        pair.fine("one way of two needs the other", pair.it.many(6), 4);
        Kit way = Kit.of("thing a;thing b;makes a from b;makes b from a;thing c;makes b from c;");
        way.fine("one way from without", way.it.many(6), 7);
        way.fine("unmake it", way.it.unmake(2), 7);
        way.fine("fallen", way.it.many(8), 3);
        way.fine("unmade", way.it.many(7), 4);
        way.fine("a fallen one is unmade", way.it.unmake(0), 0);
        way.fine("fallen", way.it.many(8), 2);
        way.fine("unmade", way.it.many(7), 5);
        // a chain of all, told backwards: found again and again, till no more stand
        StringBuilder b = new StringBuilder();
        for (char c = 'a'; c <= 'l'; c++) {
            b.append("thing ").append(c).append(';');
        }
        for (char c = 'a'; c < 'l'; c++) {
            b.append("makes ").append(c).append(" from ").append((char) (c + 1)).append(';');
        }
        Kit chain = Kit.of(b.toString());
        chain.fine("all twelve", chain.it.many(6), 4095);
        chain.fine("all fall", chain.it.unmake(11), 4095);
        chain.fine("eleven have fallen", chain.it.many(8), 2047);
        Kit all = Kit.of(b.append("makes a from b c d e f g h i j k l;work w needs a b c d e f g h i j k l;").toString());
        all.fine("a work of all", all.it.many(10), 1);
        all.it.unmake(0);
        all.fine("of all but one", all.it.many(10), 0);
    }

    // ---- 14 to 17: thing, making, needs, hate

    /** 2 ahead of 5. */
    private static void thing() {
        for (int t : FAR) {
            for (int what : new int[] {LEAST, -1, 0, 3, 4, MOST}) {
                Edges.refused("thing(" + t + ", " + what + ")", Edges::rich, x -> x.thing(t, what), 2);
            }
        }
        for (int t : new int[] {8, 9, 11, 12}) {
            Edges.refused("thing(" + t + ", 0) of eight", Edges::rich, x -> x.thing(t, 0), 2);
            Edges.refused("thing(" + t + ", 9) of eight", Edges::rich, x -> x.thing(t, 9), 2);
        }
        Edges.refused("thing(12, 0) of twelve", Edges::full, x -> x.thing(12, 0), 2);
        Edges.refused("thing(0, 0) of none", Edges::bare, x -> x.thing(0, 0), 2);
        for (int what : new int[] {LEAST, -2, -1, 4, 5, MOST}) {
            Edges.refused("thing(0, " + what + ")", Edges::rich, x -> x.thing(0, what), 5);
            Edges.refused("thing(7, " + what + ")", Edges::rich, x -> x.thing(7, what), 5);
        }
        int[][] due = {{2, 1, 0, 0}, {3, 0, 0, 0}, {5, 1, 16, 0}, {4, 1, 0, 0}, {20, 0, 1, 1}, {8, 1, 6, 2}, {1, 1, 0, 0}, {6, 1, 8, 1}};
        for (int t = 0; t < 8; t++) {
            for (int what = 0; what < 4; what++) {
                int thing = t;
                int asked = what;
                Edges.asks("thing(" + t + ", " + what + ")", Edges::rich, x -> x.thing(thing, asked), due[t][what]);
            }
        }
        Kit full = Edges.full();
        full.fine("the last, worth", full.it.thing(11, 0), 99);
        full.fine("the last, stands", full.it.thing(11, 1), 1);
        full.fine("the last, of makings up to the sixteenth", full.it.thing(11, 2), 1 | 1 << 5 | 1 << 10 | 1 << 15);
        Kit ahead = Kit.of("thing a;thing b;thing c;thing d;thing e;thing f;thing g;thing h;thing i;thing j;thing k;thing l;"
            + "ahead b a;ahead c a;ahead d a;ahead e a;ahead f a;ahead g a;ahead h a;ahead i a;ahead j a;ahead k a;ahead l a;ahead a l;");
        ahead.fine("all the others ahead", ahead.it.thing(0, 3), 4094);
        ahead.fine("the first ahead of the last", ahead.it.thing(11, 3), 1);
    }

    private static void making() {
        for (int m : new int[] {LEAST, -2, -1, 5, 6, 15, 16, 17, 256, MOST}) {
            for (int what : new int[] {LEAST, -1, 0, 1, 2, MOST}) {
                Edges.refused("making(" + m + ", " + what + ") of five", Edges::rich, x -> x.making(m, what), 2);
            }
        }
        Edges.refused("making(16, 0) of sixteen", Edges::full, x -> x.making(16, 0), 2);
        Edges.refused("making(0, 0) of none", Edges::bare, x -> x.making(0, 0), 2);
        for (int what : new int[] {LEAST, -2, -1, 2, 3, MOST}) {
            Edges.refused("making(0, " + what + ")", Edges::rich, x -> x.making(0, what), 5);
            Edges.refused("making(15, " + what + ")", Edges::full, x -> x.making(15, what), 5);
        }
        int[][] due = {{4, 3}, {5, 2}, {5, 128}, {7, 1}, {2, 8}};
        for (int m = 0; m < 5; m++) {
            int making = m;
            Edges.asks("making(" + m + ", 0)", Edges::rich, x -> x.making(making, 0), due[m][0]);
            Edges.asks("making(" + m + ", 1)", Edges::rich, x -> x.making(making, 1), due[m][1]);
        }
        Edges.asks("making(15, 0)", Edges::full, x -> x.making(15, 0), 11);
        Edges.asks("making(15, 1)", Edges::full, x -> x.making(15, 1), 2);
    }

    private static void needs() {
        for (int w : new int[] {LEAST, -2, -1, 3, 4, 5, 6, 7, 256, MOST}) {
            Edges.refused("needs(" + w + ") of three", Edges::rich, x -> x.needs(w), 2);
        }
        Edges.refused("needs(6) of six", Edges::full, x -> x.needs(6), 2);
        Edges.refused("needs(0) of none", Edges::bare, x -> x.needs(0), 2);
        int[] due = {4, 16, 160};
        for (int w = 0; w < 3; w++) {
            int work = w;
            Edges.asks("needs(" + w + ")", Edges::rich, x -> x.needs(work), due[w]);
        }
        Edges.asks("needs(0)", Edges::full, x -> x.needs(0), 64);
        Edges.asks("needs(5)", Edges::full, x -> x.needs(5), 2048);
    }

    private static void hate() {
        for (int v : new int[] {LEAST, -2, -1, 3, 4, 5, 6, 12, MOST}) {
            for (int t : new int[] {LEAST, -1, 0, 7, 8, MOST}) {
                Edges.refused("hate(" + v + ", " + t + ")", Edges::rich, x -> x.hate(v, t), 2);
            }
        }
        for (int t : new int[] {LEAST, -2, -1, 8, 9, 11, 12, 13, MOST}) {
            Edges.refused("hate(0, " + t + ")", Edges::rich, x -> x.hate(0, t), 2);
            Edges.refused("hate(2, " + t + ")", Edges::rich, x -> x.hate(2, t), 2);
        }
        Edges.refused("hate(6, 11)", Edges::full, x -> x.hate(6, 11), 2);
        Edges.refused("hate(5, 12)", Edges::full, x -> x.hate(5, 12), 2);
        int[][] due = {{3, 0, 0, 0, 5, 0, 0, 0}, {4, 0, 0, 0, 0, 0, 4, 0}, {1, 6, 0, 0, 0, 7, 0, 0}};
        for (int v = 0; v < 3; v++) {
            for (int t = 0; t < 8; t++) {
                int voter = v;
                int thing = t;
                Edges.asks("hate(" + v + ", " + t + ")", Edges::rich, x -> x.hate(voter, thing), due[v][t]);
            }
        }
        Edges.asks("hate(5, 11)", Edges::full, x -> x.hate(5, 11), 9);
        Edges.asks("hate(5, 10)", Edges::full, x -> x.hate(5, 10), 0);
        // hatred of what is unmade, fallen or exempt is told, too
        Kit k = Edges.rich();
        k.it.unmake(0);
        k.fine("of what is unmade", k.it.hate(0, 0), 3);
        k.fine("of what has fallen", k.it.hate(0, 4), 5);
        k.fine("of what is exempt", k.it.hate(1, 6), 4);
    }

    // ---- 18: copyWorth

    /** 1; 3; 4. */
    private static void copyWorthTrays() {
        for (int tray : new int[] {LEAST, -2, -1, 4, 5, 60, MOST}) {
            Edges.refused("copyWorth(" + tray + ")", Edges::rich, x -> x.copyWorth(tray), 1);
            Edges.refused("copyWorth(" + tray + ") of nothing", Edges::bare, x -> x.copyWorth(tray), 1);
        }
        Edges.refused("copyWorth to a missing one", Edges::rich, x -> x.copyWorth(3), 3);
        for (int tray = 0; tray < 4; tray++) {
            int to = tray;
            Edges.refused("copyWorth of nothing to a missing one", Edges::bare, x -> x.copyWorth(to), 3);
        }
    }

    private static Kit withTray(Kit k, int many) {
        k.it.tray(1, 0, many);
        for (int place = 0; place < many; place++) {
            k.it.write(1, place, 50 + place);
        }
        return k;
    }

    /** Too few places: 4, and nothing is written; places behind the last THING stay. */
    private static void copyWorthPlaces() {
        for (int many = 0; many < 12; many++) {
            int places = many;
            Edges.refused("copyWorth of twelve to " + many, () -> withTray(Edges.full(), places), x -> x.copyWorth(1), 4);
            if (many < 8) {
                Edges.refused("copyWorth of eight to " + many, () -> withTray(Edges.rich(), places), x -> x.copyWorth(1), 4);
            }
        }
        for (int many : new int[] {12, 13, 59, 60}) {
            int places = many;
            Edges.asks("copyWorth of twelve to " + many, () -> withTray(Edges.full(), places), x -> x.copyWorth(1), 12, Edges.Look.TRAYS);
            Kit k = withTray(Edges.full(), many);
            k.it.copyWorth(1);
            for (int place = 0; place < many; place++) {
                k.fine("place " + place, k.it.read(1, place), place < 12 ? 99 : 50 + place);
            }
        }
        for (int many : new int[] {0, 1, 60}) {
            int places = many;
            Edges.asks("copyWorth of nothing to " + many, () -> withTray(new Kit(), places), x -> x.copyWorth(1), 0);
        }
    }

    /** 0 of what does not STAND, in a TRAY of any sort. */
    private static void copyWorthOfWhatStands() {
        int[] due = {2, 0, 5, 4, 0, 8, 1, 6};
        for (int sort = 0; sort < 4; sort++) {
            Kit k = Edges.rich();
            k.it.tray(3, sort, 9);
            for (int place = 0; place < 9; place++) {
                k.it.write(3, place, -1);
            }
            k.fine("copyWorth", k.it.copyWorth(3), 8);
            for (int t = 0; t < 8; t++) {
                k.fine("worth of " + t, k.it.read(3, t), due[t]);
            }
            k.fine("behind them", k.it.read(3, 8), -1);
        }
        Kit none = Kit.of("thing a worth 99;thing b worth 7;makes b from a;");
        none.it.tray(0, 0, 2);
        none.it.unmake(0);
        none.it.write(0, 0, 9);
        none.it.write(0, 1, 9);
        none.fine("of two that do not stand", none.it.copyWorth(0), 2);
        none.fine("0 of what is unmade", none.it.read(0, 0), 0);
        none.fine("0 of what has fallen", none.it.read(0, 1), 0);
    }
}
