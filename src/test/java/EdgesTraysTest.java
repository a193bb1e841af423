/** Promises 1 to 8 and the terms of TRAYS and FRACTIONS: each sentence that names an edge. */
final class EdgesTraysTest {
    private static final int LEAST = Edges.LEAST;
    private static final int MOST = Edges.MOST;
    private static final int[] NO_TRAYS = {LEAST, -1, 4, 5, MOST};

    public static void main(String[] args) {
        newTraysAreMissing();
        newCityOfNothing();
        newHasNoCenturiesNoMarksNoTape();
        newStatusAndFraction();
        objectsAreApart();
        statusOfTheLatestThatHasOne();
        fractionsToldLatest();
        fractionsWithoutCommonDivisor();
        trayNumbers();
        traySorts();
        trayLengths();
        trayAnew();
        writePlaces();
        writeIsCut();
        readTellsNoneFromMinusOne();
        pourAskedInThisOrder();
        pourPlaces();
        pourAsTheyWere();
        pourWithinOne();
        fiveHundredAndTwelveCalls();
        Kit.end("EdgesTraysTest");
    }

    // ---- 1: a new object

    /** TRAYS are MISSING. */
    private static void newTraysAreMissing() {
        for (int t = 0; t < 4; t++) {
            int tray = t;
            Edges.refused("read of a new one", Edges::bare, x -> x.read(tray, 0), 3);
            Edges.refusedSo("write of a new one", Edges::bare, x -> x.write(tray, 0, 1), 3);
            Edges.refused("copyWorth of a new one", Edges::bare, x -> x.copyWorth(tray), 3);
            Edges.refusedSo("pour of a new one", Edges::bare, x -> x.pour(tray, 0, tray, 0, 0), 3);
        }
    }

    /** A CITY of nothing. */
    private static void newCityOfNothing() {
        for (int w = 0; w < 12; w++) {
            int what = w;
            Edges.asks("many(" + w + ") of nothing", Edges::bare, x -> x.many(what), 0);
        }
        Edges.refused("thing of nothing", Edges::bare, x -> x.thing(0, 0), 2);
        Edges.refused("making of nothing", Edges::bare, x -> x.making(0, 0), 2);
        Edges.refused("needs of nothing", Edges::bare, x -> x.needs(0), 2);
        Edges.refused("hate of nothing", Edges::bare, x -> x.hate(0, 0), 2);
        Edges.refused("unmake of nothing", Edges::bare, x -> x.unmake(0), 2);
        Edges.refused("remake of nothing", Edges::bare, x -> x.remake(0), 2);
        Edges.refusedSo("exempt of nothing", Edges::bare, x -> x.exempt(0, true), 2);
        Edges.refusedSo("grudge of nothing", Edges::bare, x -> x.grudge(0, 0, 1), 2);
        Edges.refused("vote of nothing", Edges::bare, Unmade::vote, 8);
        Edges.refused("votes of nothing", Edges::bare, x -> x.votes(0), 2);
        Edges.refused("sway of nothing", Edges::bare, x -> x.sway(0), 2);
        Edges.refused("keystone of nothing", Edges::bare, Unmade::keystone, 8);
        Edges.refused("falls of nothing", Edges::bare, x -> x.falls(0), 2);
        Edges.refused("goneBy of nothing", Edges::bare, x -> x.goneBy(0), 2);
        Edges.refused("ends of nothing", Edges::bare, x -> x.ends(0), 2);
        Edges.asks("later of nothing", Edges::bare, x -> x.later(99), 0);
    }

    /** No CENTURIES, MARKS, an empty tape. */
    private static void newHasNoCenturiesNoMarksNoTape() {
        Edges.refused("live of a new one", Edges::bare, x -> x.live(0), 8);
        Edges.refused("lived of a new one", Edges::bare, x -> x.lived(0), 8);
        Edges.refusedSo("mean of a new one", Edges::bare, x -> x.mean(0, 1), 8);
        Edges.refused("back of a new one", Edges::bare, Unmade::back, 8);
        Edges.refused("agendaAt of a new one", Edges::bare, x -> x.agendaAt(0), 8);
        Edges.refused("city(1) of an empty tape", Edges::bare, x -> x.city(1), 5);
        Edges.refused("centuries(1) of an empty tape", Edges::bare, x -> x.centuries(1), 5);
        Kit k = new Kit();
        k.fine("the first mark", k.it.mark(), 1);
        Kit.due("the first feed", k.it.feed(0, 0, 0, 0, 0), 20);
    }

    /** STATUS 0, the FRACTION 0 by 1. */
    private static void newStatusAndFraction() {
        Kit k = new Kit();
        Kit.due("a new STATUS", k.it.status(), 0);
        Kit.due("a new top", k.it.top(), 0);
        Kit.due("a new bottom", k.it.bottom(), 1);
        Kit.due("fault(0) of a new one", k.it.fault(0), -1);
        Kit.due("fault(1) of a new one", k.it.fault(1), -1);
        Kit.due("NONE", Unmade.NONE, -1);
        Kit.due("STATUS still", k.it.status(), 0);
    }

    /** What is done to one object is seen in no other one. */
    private static void objectsAreApart() {
        Edges.alike("of an object made ahead of others", () -> {
            Kit before = new Kit();
            Edges.full();
            Edges.rich();
            return before;
        }, Edges::bare);
        Edges.alike("of an object made behind others", () -> {
            Edges.full();
            Edges.rich();
            return new Kit();
        }, Edges::bare);
    }

    // ---- 2 to 4: STATUS and the FRACTION

    /** The STATUS of the latest call that has one: status(), fault(), feed(), top(), bottom() have none. */
    private static void statusOfTheLatestThatHasOne() {
        Kit k = Edges.full();
        Kit.due("a refused feed", k.it.feed(0, 0, 0, 0, 0), -1);
        Kit.due("behind a refused feed", k.it.status(), 0);
        k.refused("many(-1)", k.it.many(-1), 5);
        Kit.due("a refused feed", k.it.feed(0, 0, 0, 0, 0), -1);
        Kit.due("behind a refused feed", k.it.status(), 5);
        k.it.fault(0);
        k.it.fault(LEAST);
        Kit.due("behind fault()", k.it.status(), 5);
        k.it.top();
        k.it.bottom();
        Kit.due("behind the fraction", k.it.status(), 5);
        Kit.due("behind status()", k.it.status(), 5);
        k.fine("many(0)", k.it.many(0), 12);
        k.it.fault(7);
        Kit.due("behind fault(7)", k.it.status(), 0);
        Kit fed = new Kit();
        fed.refused("back()", fed.it.back(), 8);
        Kit.due("feed", fed.it.feed(1, 2, 3, 4, 5), 20);
        Kit.due("behind feed()", fed.it.status(), 8);
    }

    /** The FRACTION told latest: refused calls tell none. */
    private static void fractionsToldLatest() {
        Kit k = Kit.of("thing a;thing b;thing c;thing d;ahead a b;ahead c d;work w needs a;work v needs b;");
        k.fine("odds", k.it.aheadOdds(0, 3));
        fraction(k, 5, 6);
        k.refused("odds of one and itself", k.it.aheadOdds(2, 2), 9);
        k.refused("odds of none", k.it.aheadOdds(0, 4), 2);
        k.refused("mean without centuries", k.it.mean(0, 1), 8);
        k.refused("mean of none", k.it.mean(0, 0), 5);
        fraction(k, 5, 6);
        k.fine("centuries", k.centuries("unmake a;"), 1);
        k.it.back();
        k.it.city(5);
        fraction(k, 5, 6);
        k.fine("mean", k.it.mean(9999, 1));
        fraction(k, 1, 1);
        k.fine("odds", k.it.aheadOdds(1, 0));
        fraction(k, 0, 1);
        k.fine("another city", k.it.city(0), 0);
        fraction(k, 0, 1);
    }

    private static void fraction(Kit k, long over, long under) {
        int status = k.it.status();
        Kit.due("top", k.it.top(), over);
        Kit.due("bottom", k.it.bottom(), under);
        Kit.due("the fraction has no status", k.it.status(), status);
    }

    /** Without a common divisor, the bottom above 0; 0 is 0 by 1. */
    private static void fractionsWithoutCommonDivisor() {
        Kit twelve = Kit.of("thing a;thing b;thing c;thing d;thing e;thing f;thing g;thing h;thing i;thing j;thing k;thing l;");
        for (int t = 1; t < 12; t++) {
            twelve.fine("one by two, of 479,001,600", twelve.it.aheadOdds(0, t));
            fraction(twelve, 1, 2);
        }
        Kit first = Kit.of("thing a;thing b;thing c;thing d;thing e;ahead a b;ahead a c;ahead a d;ahead a e;");
        first.fine("all", first.it.aheadOdds(0, 4));
        fraction(first, 1, 1);
        first.fine("none", first.it.aheadOdds(4, 0));
        fraction(first, 0, 1);
        // of works there are six, of seeds twenty: what is done by some, of 20
        Kit mean = Kit.of("thing a;thing b;work m needs a;work n needs a;work o needs a;work p needs a;work q needs a;work r needs a;");
        mean.centuries("joke;");
        int kept = 0;
        for (int seed = 0; seed < 20; seed++) {
            kept += (seed * 2971 + 10663) % 65536 / 8 % 2 == 1 ? 6 : 0;
        }
        mean.fine("mean of twenty", mean.it.mean(0, 20));
        Kit.due("as much", mean.it.top() * 20, kept * mean.it.bottom());
        long a = mean.it.top();
        long b = mean.it.bottom();
        for (int divisor = 2; divisor <= 20; divisor++) {
            Kit.due("no common divisor " + divisor, a % divisor == 0 && b % divisor == 0 ? 1 : 0, 0);
        }
        Kit.due("above 0", b > 0 ? 1 : 0, 1);
    }

    // ---- 5: tray

    /** TRAYS, 0 to 3: 1 ahead of 5 and 6. */
    private static void trayNumbers() {
        for (int no : NO_TRAYS) {
            for (int many : new int[] {LEAST, -1, 0, 60, 61, MOST}) {
                Edges.refusedSo("tray(" + no + ", 0, " + many + ")", Edges::rich, x -> x.tray(no, 0, many), 1);
            }
        }
        for (int t = 0; t < 4; t++) {
            Kit k = new Kit();
            k.fine("tray " + t, k.it.tray(t, 3, 1));
            for (int o = 0; o < 4; o++) {
                if (o == t) {
                    k.fine("laid", k.it.read(o, 0), 0);
                } else {
                    k.refused("another one is missing still", k.it.read(o, 0), 3);
                }
            }
        }
    }

    /** Of 8 bits (sort 0), 16 (1), 32 (2) or 64 (3); no such sort: 1, ahead of 5 and 6. */
    private static void traySorts() {
        for (int sort : new int[] {LEAST, -1, 4, 8, 64, MOST}) {
            for (int many : new int[] {LEAST, -1, 0, 60, 61, MOST}) {
                Edges.refusedSo("tray(0, " + sort + ", " + many + ")", Edges::rich, x -> x.tray(0, sort, many), 1);
            }
            Edges.refusedSo("tray(3, " + sort + ", 1), a missing one", Edges::rich, x -> x.tray(3, sort, 1), 1);
        }
        for (int sort = 0; sort < 4; sort++) {
            Kit k = new Kit();
            k.fine("sort " + sort, k.it.tray(0, sort, 60));
        }
    }

    /** So many numbers (at most 60; 5), below 0: 6. */
    private static void trayLengths() {
        for (int many : new int[] {61, 62, 64, 100, 256, MOST - 1, MOST}) {
            Edges.refusedSo("tray of " + many, Edges::rich, x -> x.tray(0, 0, many), 5);
            Edges.refusedSo("tray of " + many + ", a missing one", Edges::rich, x -> x.tray(3, 3, many), 5);
        }
        for (int many : new int[] {-1, -2, -60, -61, LEAST + 1, LEAST}) {
            Edges.refusedSo("tray of " + many, Edges::rich, x -> x.tray(0, 0, many), 6);
            Edges.refusedSo("tray of " + many + ", a missing one", Edges::rich, x -> x.tray(3, 3, many), 6);
        }
        for (int many = 0; many <= 60; many++) {
            Kit k = new Kit();
            k.fine("tray of " + many, k.it.tray(2, 1, many));
            for (int place = 0; place < many; place++) {
                k.fine("all 0", k.it.read(2, place), 0);
            }
            k.refused("no more of " + many, k.it.read(2, many), 4);
            k.refused("nor ahead of it", k.it.read(2, -1), 4);
        }
    }

    /** All 0, whatever there was in it ahead; of another sort and length. */
    private static void trayAnew() {
        Kit k = new Kit();
        k.it.tray(1, 3, 60);
        for (int place = 0; place < 60; place++) {
            k.it.write(1, place, Long.MAX_VALUE - place);
        }
        k.fine("a shorter one", k.it.tray(1, 0, 1));
        k.fine("is 0", k.it.read(1, 0), 0);
        k.refused("and has no more", k.it.read(1, 1), 4);
        k.fine("a longer one again", k.it.tray(1, 3, 60));
        for (int place = 0; place < 60; place++) {
            k.fine("is 0", k.it.read(1, place), 0);
        }
        k.fine("of sort 0", k.it.tray(1, 0, 3));
        k.it.write(1, 2, 255);
        k.fine("is cut to it", k.it.read(1, 2), -1);
        k.fine("of nothing", k.it.tray(1, 2, 0));
        k.refused("is not missing", k.it.read(1, 0), 4);
        k.refused("is not missing", k.it.write(1, 0, 1), 4);
    }

    // ---- 6 and 7: write, read

    /** 1; 3; 4, the first of these that holds. */
    private static void writePlaces() {
        for (int no : NO_TRAYS) {
            for (int place : new int[] {LEAST, -1, 0, 60, MOST}) {
                Edges.refusedSo("write(" + no + ", " + place + ")", Edges::rich, x -> x.write(no, place, 1), 1);
                Edges.refused("read(" + no + ", " + place + ")", Edges::rich, x -> x.read(no, place), 1);
            }
        }
        for (int place : new int[] {LEAST, -1, 0, 59, 60, MOST}) {
            Edges.refusedSo("write to a missing one at " + place, Edges::rich, x -> x.write(3, place, 1), 3);
            Edges.refused("read of a missing one at " + place, Edges::rich, x -> x.read(3, place), 3);
        }
        for (int place : new int[] {LEAST, LEAST + 1, -60, -1, 9, 10, 59, 60, 61, MOST - 1, MOST}) {
            Edges.refusedSo("write to nine at " + place, Edges::rich, x -> x.write(1, place, 1), 4);
            Edges.refused("read of nine at " + place, Edges::rich, x -> x.read(1, place), 4);
        }
        for (int place : new int[] {LEAST, -1, 60, 61, MOST}) {
            Edges.refusedSo("write to sixty at " + place, Edges::full, x -> x.write(2, place, 1), 4);
            Edges.refused("read of sixty at " + place, Edges::full, x -> x.read(2, place), 4);
        }
        Kit k = Edges.full();
        for (int place : new int[] {0, 59}) {
            k.fine("write at " + place, k.it.write(2, place, 5 + place));
            k.fine("read at " + place, k.it.read(2, place), 5 + place);
        }
        k.fine("beside it", k.it.read(2, 1), 0);
        k.fine("beside it", k.it.read(2, 58), 0);
        k.fine("another tray", k.it.read(1, 0), 0);
    }

    /** What is written is cut to 8, 16, 32, 64 bits, with sign. */
    private static void writeIsCut() {
        Kit k = new Kit();
        for (int sort = 0; sort < 4; sort++) {
            int bits = 8 << sort;
            k.fine("tray", k.it.tray(sort, sort, 1));
            long most = bits == 64 ? Long.MAX_VALUE : (1L << bits - 1) - 1;
            long least = -most - 1;
            cut(k, sort, most, most);
            cut(k, sort, least, least);
            cut(k, sort, most + 1, least);
            cut(k, sort, least - 1, most);
            cut(k, sort, 0, 0);
            cut(k, sort, -1, -1);
            cut(k, sort, 1, 1);
            cut(k, sort, Long.MAX_VALUE, bits == 64 ? Long.MAX_VALUE : -1);
            cut(k, sort, Long.MIN_VALUE, bits == 64 ? Long.MIN_VALUE : 0);
            if (bits < 64) {
                cut(k, sort, 1L << bits, 0);
                cut(k, sort, (1L << bits) - 1, -1);
                cut(k, sort, -(1L << bits), 0);
                cut(k, sort, -(1L << bits) + 5, 5);
                cut(k, sort, (5L << bits) + 7, 7);
            }
        }
    }

    private static void cut(Kit k, int tray, long written, long due) {
        k.fine("write " + written + " to sort " + tray, k.it.write(tray, 0, written));
        k.fine("cut of " + written + " to sort " + tray, k.it.read(tray, 0), due);
    }

    /** STATUS tells NONE from -1. */
    private static void readTellsNoneFromMinusOne() {
        Kit k = new Kit();
        k.it.tray(0, 0, 1);
        k.it.write(0, 0, -1);
        Kit.due("-1", k.it.read(0, 0), -1);
        Kit.due("with STATUS 0", k.it.status(), 0);
        Kit.due("NONE", k.it.read(0, 1), -1);
        Kit.due("with STATUS 4", k.it.status(), 4);
        k.refused("many(12)", k.it.many(12), 5);
        Kit.due("-1 again", k.it.read(0, 0), -1);
        Kit.due("with STATUS 0", k.it.status(), 0);
    }

    // ---- 8: pour

    /** 1, 3 (either), 11, 6, 4, asked in this order. */
    private static void pourAskedInThisOrder() {
        for (int no : NO_TRAYS) {
            // 3, 11, 6 and 4 hold, too
            Edges.refusedSo("pour from " + no, Edges::rich, x -> x.pour(no, -1, 3, 99, -1), 1);
            Edges.refusedSo("pour to " + no, Edges::rich, x -> x.pour(3, -1, no, 99, -1), 1);
            Edges.refusedSo("pour from " + no + " to 0", Edges::rich, x -> x.pour(no, 0, 0, 0, 1), 1);
            Edges.refusedSo("pour from 0 to " + no, Edges::rich, x -> x.pour(0, 0, no, 0, 1), 1);
            Edges.refusedSo("pour from " + no + " to itself", Edges::rich, x -> x.pour(no, 0, no, 0, 0), 1);
        }
        Edges.refusedSo("pour from a missing one", Edges::rich, x -> x.pour(3, -1, 0, 99, -1), 3);
        Edges.refusedSo("pour to a missing one", Edges::rich, x -> x.pour(2, -1, 3, 99, -1), 3);
        Edges.refusedSo("pour from a missing one to itself", Edges::rich, x -> x.pour(3, 0, 3, 0, 0), 3);
        Edges.refusedSo("pour to an unlike one", Edges::rich, x -> x.pour(0, -1, 1, 99, -1), 11);
        Edges.refusedSo("pour nothing to an unlike one", Edges::rich, x -> x.pour(0, 0, 1, 0, 0), 11);
        for (int a = 0; a < 4; a++) {
            for (int b = 0; b < 4; b++) {
                Kit k = new Kit();
                k.it.tray(0, a, 2);
                k.it.tray(1, b, 2);
                if (a == b) {
                    k.fine("pour of like sorts " + a, k.it.pour(0, 0, 1, 0, 2));
                } else {
                    k.refused("pour of unlike sorts", k.it.pour(0, 0, 1, 0, 2), 11);
                }
            }
        }
        for (int many : new int[] {-1, -2, LEAST + 1, LEAST}) {
            Edges.refusedSo("pour " + many, Edges::rich, x -> x.pour(0, -1, 0, 99, many), 6);
            Edges.refusedSo("pour " + many + " from fine places", Edges::rich, x -> x.pour(1, 2, 1, 3, many), 6);
        }
    }

    private static Kit twoTrays() {
        Kit k = new Kit();
        k.it.tray(0, 2, 60);
        k.it.tray(1, 2, 4);
        for (int place = 0; place < 60; place++) {
            k.it.write(0, place, 100 + place);
        }
        return k;
    }

    /** 4: a place that the TRAY has not, or too few numbers. */
    private static void pourPlaces() {
        int[][] refused = {
            {-1, 0, 1}, {0, -1, 1}, {LEAST, 0, 1}, {0, LEAST, 1}, {60, 0, 1}, {0, 4, 1}, {MOST, 0, 1}, {0, MOST, 1},
            {57, 0, 4}, {59, 0, 2}, {0, 1, 4}, {0, 3, 2}, {0, 0, 5}, {0, 0, 60}, {0, 0, 61}, {0, 0, MOST}, {MOST, MOST, MOST},
            {1, 1, MOST}, {MOST, 0, MOST}, {0, MOST, MOST}, {-1, 0, 0}, {0, -1, 0}, {61, 0, 0}, {0, 5, 0}, {LEAST, LEAST, 0},
            {MOST, MOST, 0}, {-1, 0, 2}, {0, -1, 2}, {LEAST, 0, MOST}, {0, LEAST, MOST}, {MOST - 1, 0, 2}, {0, MOST - 1, 2},
        };
        for (int[] p : refused) {
            String call = "pour(0, " + p[0] + ", 1, " + p[1] + ", " + p[2] + ")";
            Edges.refusedSo(call, EdgesTraysTest::twoTrays, x -> x.pour(0, p[0], 1, p[1], p[2]), 4);
        }
        int[][] fine = {{0, 0, 4}, {56, 0, 4}, {59, 3, 1}, {0, 3, 1}, {59, 0, 1}, {0, 0, 0}, {59, 3, 0}};
        for (int[] p : fine) {
            Kit k = twoTrays();
            k.fine("pour(0, " + p[0] + ", 1, " + p[1] + ", " + p[2] + ")", k.it.pour(0, p[0], 1, p[1], p[2]));
            for (int place = 0; place < 4; place++) {
                boolean poured = place >= p[1] && place < p[1] + p[2];
                k.fine("place " + place, k.it.read(1, place), poured ? 100 + p[0] + place - p[1] : 0);
            }
            for (int place = 0; place < 60; place++) {
                k.fine("where it comes from", k.it.read(0, place), 100 + place);
            }
        }
        Kit whole = twoTrays();
        whole.it.tray(3, 2, 60);
        whole.fine("sixty", whole.it.pour(0, 0, 3, 0, 60));
        for (int place = 0; place < 60; place++) {
            whole.fine("of sixty", whole.it.read(3, place), 100 + place);
        }
        whole.refused("sixty-one", whole.it.pour(0, 0, 3, 0, 61), 4);
    }

    /** As they were: the least and the greatest of each sort. */
    private static void pourAsTheyWere() {
        for (int sort = 0; sort < 4; sort++) {
            Kit k = new Kit();
            k.it.tray(0, sort, 2);
            k.it.tray(3, sort, 2);
            long most = sort == 3 ? Long.MAX_VALUE : (1L << (8 << sort) - 1) - 1;
            k.it.write(0, 0, most);
            k.it.write(0, 1, -most - 1);
            k.fine("pour", k.it.pour(0, 0, 3, 0, 2));
            k.fine("the greatest", k.it.read(3, 0), most);
            k.fine("the least", k.it.read(3, 1), -most - 1);
        }
    }

    /** To the same one, places on and back, as they were ahead. */
    private static void pourWithinOne() {
        for (int from = 0; from <= 6; from++) {
            for (int to = 0; to <= 6; to++) {
                int many = 6 - Math.max(from, to);
                Kit k = new Kit();
                k.it.tray(2, 1, 6);
                for (int place = 0; place < 6; place++) {
                    k.it.write(2, place, 20 + place);
                }
                k.fine("within", k.it.pour(2, from, 2, to, many));
                for (int place = 0; place < 6; place++) {
                    boolean poured = place >= to && place < to + many;
                    k.fine("within at " + place, k.it.read(2, place), 20 + (poured ? place - to + from : place));
                }
                k.refused("one more", k.it.pour(2, from, 2, to, many + 1), 4);
            }
        }
    }

    /** An object is used for at most 512 calls: the last of them is answered like the first. */
    private static void fiveHundredAndTwelveCalls() {
        Kit k = new Kit();
        k.it.tray(0, 3, 60);
        for (int call = 2; call < 512; call += 2) {
            Kit.due("write, call " + call, k.it.write(0, call % 60, call) ? 1 : 0, 1);
            Kit.due("read, call " + (call + 1), k.it.read(0, call % 60), call);
        }
        Kit.due("call 512", k.it.read(0, 510 % 60), 510);
    }
}
