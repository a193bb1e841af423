/** Promises 52 to 56: centuries lived, and marks. */
final class CenturiesTest {
    public static void main(String[] args) {
        refusals();
        yearsAndMisses();
        deeds();
        jokes();
        tests();
        loopsAndTheLimit();
        lived();
        means();
        marks();
        Kit.end("CenturiesTest");
    }

    private static void refusals() {
        Kit k = Kit.of(TextsTest.TOWN);
        k.refused("live(-1)", k.it.live(-1), 5);
        k.refused("live(10000)", k.it.live(10000), 5);
        k.refused("live(0)", k.it.live(0), 8);
        k.refused("lived(-1)", k.it.lived(-1), 5);
        k.refused("lived(5)", k.it.lived(5), 5);
        k.refused("lived(0)", k.it.lived(0), 8);
        k.refused("mean(-1, 1)", k.it.mean(-1, 1), 5);
        k.refused("mean(0, 0)", k.it.mean(0, 0), 5);
        k.refused("mean(0, 21)", k.it.mean(0, 21), 5);
        k.refused("mean(9999, 2)", k.it.mean(9999, 2), 5);
        k.refused("mean(most, 20)", k.it.mean(Integer.MAX_VALUE, 20), 5);
        k.refused("mean(0, 20)", k.it.mean(0, 20), 8);
        k.fine("centuries", k.centuries("stop;"), 1);
        k.fine("live(9999)", k.it.live(9999), 1);
        k.fine("mean(9999, 1)", k.it.mean(9999, 1));
        k.fine("mean(9980, 20)", k.it.mean(9980, 20));
        k.refused("mean(9981, 20)", k.it.mean(9981, 20), 5);
    }

    /** Lives centuries on a new town: steps, then what lived() tells. */
    private static Kit lives(String town, String text, int seed, int... want) {
        Kit k = Kit.of(town);
        k.centuries(text);
        Kit.due("taken: " + text, k.it.status(), 0);
        k.fine("live: " + text, k.it.live(seed), want[0]);
        for (int what = 0; what < 5; what++) {
            k.fine("lived(" + what + "): " + text, k.it.lived(what), want[what + 1]);
        }
        return k;
    }

    private static void yearsAndMisses() {
        Kit k = lives(TextsTest.TOWN, "year 1;year 9;", 0, 2, 7, 10, 3, 0, 0);
        k.fine("the year", k.it.many(5), 10);
        k.fine("unmade", k.it.many(7), 67);
        Kit far = Kit.of(TextsTest.TOWN);
        for (int i = 0; i < 101; i++) {
            far.it.year(i < 100 ? 99 : 90);
        }
        far.fine("year 9,990", far.it.many(5), 9990);
        far.fine("centuries", far.centuries("year 9;year 2;year 1;year 1;"), 4);
        far.fine("live", far.it.live(0), 4);
        far.fine("nine nameless years, three steps missed as a whole", far.it.lived(0), 12);
        far.fine("nine went by", far.it.lived(1), 9);
        far.fine("year 9,999", far.it.many(5), 9999);
        Kit edge = Kit.of("thing a;voter v;hates v a 1;");
        for (int i = 0; i < 100; i++) {
            edge.it.year(99);
        }
        edge.it.year(96);
        edge.it.remake(0);
        edge.centuries("year 4;year 3;");
        edge.fine("live", edge.it.live(0), 2);
        edge.fine("missed: four as a whole, two nameless", edge.it.lived(0), 3);
        edge.fine("three went by", edge.it.lived(1), 3);
        edge.fine("one was unmade", edge.it.lived(2), 1);
    }

    private static void deeds() {
        Kit k = lives(TextsTest.TOWN, "unmake oil;unmake nail;unmake nail;unmake bridge;remake bridge;remake bridge;remake wood;", 0,
            7, 4, 0, 2, 0, 0);
        k.fine("unmade", k.it.many(7), 1);
        Kit spare = lives(TextsTest.TOWN, "spare oil;unmake oil;spare oil;remake oil;unmake oil;spare nail;", 0, 6, 1, 0, 1, 0, 0);
        spare.fine("exempt", spare.it.many(9), 9);
        spare.fine("nothing unmade", spare.it.many(7), 0);
        Kit stop = lives(TextsTest.TOWN, "unmake nail;stop;unmake wood;", 0, 2, 0, 0, 1, 0, 0);
        stop.fine("stopped", stop.it.many(7), 1);
        Kit within = lives(TextsTest.TOWN, "loop 5;when stands nail;unmake nail;stop;end;end;joke;", 0, 4, 0, 0, 1, 0, 0);
        within.fine("stopped within", within.it.many(7), 1);
    }

    private static void jokes() {
        // of seven by 10,663 / 8 = 1,332, and then of those left by the next draws
        Kit k = lives(TextsTest.TOWN, "joke;", 0, 1, 0, 0, 1, 1, 0);
        int[] open = {0, 1, 2, 4, 5, 6, 7};
        k.fine("unmade by a draw", k.it.many(7), 1 << open[1332 % 7]);
        int s = 9999;
        s = (s * 2971 + 10663) % 65536;
        int first = s / 8 % 3;
        s = (s * 2971 + 10663) % 65536;
        int second = s / 8 % 2;
        Kit three = lives("thing a;thing b;thing c;", "joke;joke;", 9999, 2, 0, 0, 2, 2, 0);
        int[] left = first == 0 ? new int[] {1, 2} : first == 1 ? new int[] {0, 2} : new int[] {0, 1};
        three.fine("two draws", three.it.many(7), 1 << first | 1 << left[second]);
        Kit none = lives("thing a exempt;", "joke;spare a;joke;joke;", 5, 4, 2, 0, 1, 1, 0);
        none.fine("no draw without things", none.it.many(7), 1);
    }

    private static void tests() {
        lives(TextsTest.TOWN, "when stands nail;joke;end;when stands oil;stop;end;", 1, 4, 0, 0, 1, 1, 0);
        lives(TextsTest.TOWN, "unmake nail;when stands nail;joke;end;when stands cart;joke;end;", 1, 3, 0, 0, 1, 0, 0);
        lives(TextsTest.TOWN, "when done cross;unmake nail;end;when done cross;stop;end;joke;", 1, 4, 0, 0, 2, 1, 0);
        // nail is hated by 8 in all, whatever the law
        for (String law : new String[] {"", "law 1;", "law 2;"}) {
            lives(TextsTest.TOWN + law, "when votes nail = 8;year 1;end;", 0, 2, 0, 1, 1, 0, 0);
            lives(TextsTest.TOWN + law, "when votes nail < 8;year 1;end;", 0, 1, 0, 0, 0, 0, 0);
            lives(TextsTest.TOWN + law, "when votes nail > 8;year 1;end;", 0, 1, 0, 0, 0, 0, 0);
            lives(TextsTest.TOWN + law, "when votes nail < 9;when votes nail > 7;year 1;end;end;", 0, 3, 0, 1, 1, 0, 0);
        }
        lives(TextsTest.TOWN, "spare nail;when votes nail = 0;unmake wood;end;", 0, 3, 0, 0, 1, 0, 0);
        lives(TextsTest.TOWN, "unmake nail;when votes bridge = 0;unmake wood;end;", 0, 3, 0, 0, 2, 0, 0);
        lives("thing a;voter v;hates v a 9;", "when votes a < 99;stop;end;joke;", 0, 2, 0, 0, 0, 0, 0);
    }

    private static void loopsAndTheLimit() {
        lives(TextsTest.TOWN, "loop 3;remake nail;end;", 0, 4, 3, 0, 0, 0, 0);
        lives(TextsTest.TOWN, "loop 99;end;stop;", 0, 2, 0, 0, 0, 0, 0);
        lives(TextsTest.TOWN, "loop 99;loop 99;end;end;", 0, 100, 0, 0, 0, 0, 0);
        lives(TextsTest.TOWN, "loop 2;loop 3;remake nail;end;end;remake nail;", 0, 1 + 2 * 4 + 1, 7, 0, 0, 0, 0);
        lives(TextsTest.TOWN, "loop 99;loop 99;loop 99;end;end;end;", 0, 300, 0, 0, 0, 0, 1);
        // 298 steps
        String upTo = "loop 99;remake nail;remake nail;remake nail;end;";
        lives(TextsTest.TOWN, upTo + "stop;stop;", 0, 299, 297, 0, 0, 0, 0);
        lives(TextsTest.TOWN, upTo + "joke;stop;", 0, 300, 297, 0, 1, 1, 0);
        lives(TextsTest.TOWN, upTo + "joke;joke;", 0, 300, 297, 0, 2, 2, 0);
        lives(TextsTest.TOWN, upTo + "joke;loop 9;end;", 0, 300, 297, 0, 1, 1, 0);
        lives(TextsTest.TOWN, upTo + "joke;stop;joke;", 0, 300, 297, 0, 1, 1, 0);
        lives(TextsTest.TOWN, upTo + "joke;joke;stop;", 0, 300, 297, 0, 2, 2, 1);
        lives(TextsTest.TOWN, upTo + "remake nail;loop 2;end;", 0, 300, 298, 0, 0, 0, 0);
        lives(TextsTest.TOWN, "remake nail;" + upTo + "loop 9;end;", 0, 300, 298, 0, 0, 0, 0);
        lives(TextsTest.TOWN, upTo + "joke;", 0, 299, 297, 0, 1, 1, 0);
        lives(TextsTest.TOWN, "loop 1;" + upTo + "loop 9;end;end;", 0, 300, 297, 0, 0, 0, 0);
        lives(TextsTest.TOWN, "loop 2;" + upTo + "loop 9;end;end;", 0, 300, 297, 0, 0, 0, 1);
        lives(TextsTest.TOWN, "loop 1;" + upTo + "loop 9;joke;end;end;", 0, 300, 297, 0, 0, 0, 1);
        lives(TextsTest.TOWN, "loop 1;" + upTo + "when stands nail;joke;end;end;", 0, 300, 297, 0, 0, 0, 1);
        lives(TextsTest.TOWN, "loop 1;" + upTo + "when done cross;end;end;", 0, 300, 297, 0, 0, 0, 0);
        lives("thing a;", "unmake a;loop 99;remake a;unmake a;loop 1;end;end;when stands a;joke;end;", 0, 300, 0, 0, 100, 0, 0);
    }

    private static void lived() {
        Kit k = lives(TextsTest.TOWN, "year 2;joke;unmake oil;", 7, 3, 1, 2, 3, 1, 0);
        k.refused("live refused", k.it.live(-1), 5);
        k.fine("mean", k.it.mean(0, 3));
        k.it.mark();
        k.it.back();
        k.fine("another city", k.it.city(0), 0);
        int[] want = {1, 2, 3, 1, 0};
        for (int what = 0; what < 5; what++) {
            k.fine("whatever came since", k.it.lived(what), want[what]);
        }
        k.centuries("year 1;");
        k.it.live(0);
        k.fine("the latest", k.it.lived(1), 1);
    }

    private static void means() {
        Kit k = Kit.of("thing a;thing b;thing c;work u needs a;work v needs b;work w needs c;");
        k.centuries("joke;");
        k.fine("mean", k.it.mean(0, 20));
        Kit.due("top", k.it.top(), 2);
        Kit.due("bottom", k.it.bottom(), 1);
        k.fine("all is as it was", k.it.many(10), 7);
        k.fine("nothing lived", k.it.many(7), 0);
        k.refused("none lived", k.it.lived(0), 8);
        Kit one = Kit.of("thing a;thing b;work u needs a;");
        one.centuries("joke;");
        int kept = 0;
        for (int seed = 3; seed < 10; seed++) {
            kept += (seed * 2971 + 10663) % 65536 / 8 % 2 == 1 ? 1 : 0;
        }
        one.fine("mean of seven", one.it.mean(3, 7));
        Kit.due("top", one.it.top(), kept);
        Kit.due("bottom", one.it.bottom(), 7);
        Kit none = Kit.of("thing a;work u needs a;");
        none.centuries("joke;year 3;spare a;");
        none.fine("mean of nothing", none.it.mean(3, 7));
        Kit.due("top", none.it.top(), 0);
        Kit.due("bottom", none.it.bottom(), 1);
        none.fine("the year", none.it.many(5), 0);
        none.fine("what is exempt", none.it.many(9), 0);
    }

    private static void marks() {
        Kit k = Kit.of(TextsTest.TOWN);
        k.refused("back()", k.it.back(), 8);
        k.centuries("year 1;");
        k.fine("mark()", k.it.mark(), 1);
        k.it.unmake(0);
        k.it.grudge(0, 5, 9);
        k.it.rule(2);
        k.it.exempt(6, true);
        k.it.year(4);
        k.centuries("joke;joke;");
        k.fine("mark()", k.it.mark(), 2);
        k.fine("another city", k.city("thing a;"), 1);
        k.fine("mark()", k.it.mark(), 3);
        k.refused("a fourth", k.it.mark(), 7);
        k.it.unmake(0);
        k.fine("back()", k.it.back(), 2);
        k.fine("a stands", k.it.many(6), 1);
        k.refused("no centuries", k.it.live(0), 8);
        k.fine("back()", k.it.back(), 1);
        k.fine("things", k.it.many(0), 8);
        k.fine("the year", k.it.many(5), 4);
        k.fine("the law", k.it.many(4), 2);
        k.fine("exempt", k.it.many(9), 72);
        k.fine("hate", k.it.hate(0, 5), 9);
        k.fine("both jokes", k.it.live(0), 2);
        k.fine("mark() again", k.it.mark(), 2);
        k.fine("back()", k.it.back(), 1);
        k.fine("names are there again", k.centuries("unmake nail;"), 1);
        k.fine("back()", k.it.back(), 0);
        k.fine("the year", k.it.many(5), 0);
        k.fine("the law", k.it.many(4), 0);
        k.fine("exempt", k.it.many(9), 8);
        k.fine("unmade", k.it.many(7), 0);
        k.fine("hate", k.it.hate(0, 5), 0);
        k.fine("vote by what was", k.it.vote(), 0);
        k.fine("later by what was", k.it.later(3), 12);
        k.fine("falls by what was", k.it.falls(0), 145);
        k.fine("the centuries", k.it.live(0), 1);
        k.refused("no mark", k.it.back(), 8);
        Kit trays = Kit.of("thing a;thing b;ahead a b;");
        trays.it.tray(0, 0, 1);
        trays.it.mark();
        trays.it.write(0, 0, 5);
        trays.it.aheadOdds(0, 1);
        trays.feed("thing c;");
        trays.it.back();
        trays.fine("trays are not taken back", trays.it.read(0, 0), 5);
        Kit.due("nor the fraction", trays.it.top(), 1);
        trays.fine("nor the tape", trays.it.city(8), 1);
    }
}
