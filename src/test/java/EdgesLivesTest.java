/** Promises 52 to 54 and the terms of CENTURIES: seeds, draws, what is MISSED, loops, tests, and the 300 STEPS. */
final class EdgesLivesTest {
    private static final int LEAST = Edges.LEAST;
    private static final int MOST = Edges.MOST;
    private static final String FIVE = "thing a;thing b;thing c;thing d;thing e;";

    public static void main(String[] args) {
        liveRefused();
        livedRefused();
        meanRefused();
        draws();
        yearsBeyond();
        namelessYears();
        missedDeeds();
        jokesWithoutThings();
        whensByVotes();
        whensByStandingAndDone();
        loops();
        threeHundredSteps();
        leftByThe300Alone();
        stops();
        livedWhateverCameSince();
        itStaysSo();
        meansOfSeeds();
        Kit.end("EdgesLivesTest");
    }

    /** A city with centuries, lived by a seed: what lived() tells, and the steps. */
    private static Kit lives(String city, String text, int seed, int steps, int... tally) {
        return lives(Kit.of(city), text, seed, steps, tally);
    }

    private static Kit lives(Kit k, String text, int seed, int steps, int... tally) {
        k.centuries(text);
        Kit.due("taken: " + text, k.it.status(), 0);
        k.fine("live(" + seed + ") of " + text, k.it.live(seed), steps);
        for (int what = 0; what < tally.length; what++) {
            k.fine("lived(" + what + ") of " + text, k.it.lived(what), tally[what]);
        }
        return k;
    }

    // ---- STATUS

    /** 5; 8: no CENTURIES. */
    private static void liveRefused() {
        for (int seed : new int[] {LEAST, LEAST + 1, -9999, -2, -1, 10000, 10001, 65536, MOST - 1, MOST}) {
            Edges.refused("live(" + seed + ")", Edges::rich, x -> x.live(seed), 5);
            Edges.refused("live(" + seed + ") of all", Edges::full, x -> x.live(seed), 5);
            Edges.refused("live(" + seed + ") of none: 5 ahead of 8", Edges::bare, x -> x.live(seed), 5);
        }
        for (int seed : new int[] {0, 1, 9998, 9999}) {
            Edges.refused("live(" + seed + ") without CENTURIES", Edges::bare, x -> x.live(seed), 8);
            Edges.refused("live(" + seed + ") of a new city", () -> Kit.of(TextsTest.TOWN), x -> x.live(seed), 8);
            Kit k = Kit.of(FIVE);
            lives(k, "joke;", seed, 1, 0, 0, 1, 1, 0);
            lives(k, "", seed, 0, 0, 0, 0, 0, 0);
        }
    }

    /** 5; 8: there was none. */
    private static void livedRefused() {
        for (int what : new int[] {LEAST, LEAST + 1, -2, -1, 5, 6, 256, MOST - 1, MOST}) {
            Edges.refused("lived(" + what + ")", Edges::rich, x -> x.lived(what), 5);
            Edges.refused("lived(" + what + ") of none: 5 ahead of 8", Edges::bare, x -> x.lived(what), 5);
        }
        for (int w = 0; w < 5; w++) {
            int what = w;
            Edges.refused("lived(" + w + ") of none", Edges::full, x -> x.lived(what), 8);
            Edges.refused("lived(" + w + ") of a live() refused, and of a mean()", () -> {
                Kit k = Edges.full();
                k.it.live(-1);
                k.it.live(10000);
                k.it.mean(0, 20);
                return k;
            }, x -> x.lived(what), 8);
        }
    }

    /** So many seeds (1 to 20) from one on (5: the last above 9,999, too; 8). */
    private static void meanRefused() {
        int[][] refused = {{LEAST, 1}, {-2, 1}, {-1, 1}, {-1, 2}, {-20, 20}, {10000, 1}, {10001, 1}, {MOST, 1}, {MOST, 20}, {MOST - 1, 2},
            {0, LEAST}, {0, -1}, {0, 0}, {0, 21}, {0, 22}, {0, 256}, {0, MOST}, {9999, 0}, {9999, 2}, {9999, 20}, {9998, 3}, {9981, 20},
            {9980, 21}, {9990, 11}, {MOST, MOST}, {LEAST, LEAST}, {1, MOST}, {MOST, 0}, {10000, 0}};
        for (int[] p : refused) {
            String call = "mean(" + p[0] + ", " + p[1] + ")";
            Edges.refusedSo(call, Edges::rich, x -> x.mean(p[0], p[1]), 5);
            Edges.refusedSo(call + " of none: 5 ahead of 8", Edges::bare, x -> x.mean(p[0], p[1]), 5);
        }
        int[][] fine = {{0, 1}, {0, 20}, {9999, 1}, {9980, 20}, {9998, 2}, {9990, 10}, {5000, 7}};
        for (int[] p : fine) {
            String call = "mean(" + p[0] + ", " + p[1] + ")";
            Edges.refusedSo(call + " without CENTURIES", Edges::bare, x -> x.mean(p[0], p[1]), 8);
            Edges.asksSo(call, Edges::full, x -> x.mean(p[0], p[1]), Edges.Look.FRACTION);
            Edges.asksSo(call, Edges::rich, x -> x.mean(p[0], p[1]), Edges.Look.FRACTION);
        }
    }

    // ---- draws

    /** s becomes what is left of s times 2,971 and 10,663 by 65,536; the rest of s by 8, rounded down, by n. */
    private static void draws() {
        StringBuilder b = new StringBuilder();
        for (char c = 'a'; c <= 'l'; c++) {
            b.append("thing ").append(c).append(';');
        }
        for (int seed : new int[] {0, 1, 2, 7, 8, 21, 22, 4999, 9998, 9999}) {
            for (int jokes = 1; jokes <= 12; jokes++) {
                long s = seed;
                int gone = 0;
                for (int k = 0; k < jokes; k++) {
                    s = (s * 2971 + 10663) % 65536;
                    int left = (int) (s / 8 % (12 - k));
                    for (int t = 0; t < 12; t++) {
                        if ((gone >> t & 1) == 0 && left-- == 0) {
                            gone |= 1 << t;
                            break;
                        }
                    }
                }
                Kit k = lives(b.toString(), "loop " + jokes + ";joke;end;", seed, 1 + jokes, 0, 0, jokes, jokes, 0);
                k.fine("unmade by draws", k.it.many(7), gone);
            }
        }
        // 0 by 10,663 by 8 is 1,332: of five the third; by 1: 13,634 by 8 is 1,704: the fifth
        lives(FIVE, "joke;", 0, 1).fine("by seed 0", lives(FIVE, "joke;", 0, 1).it.many(7), 4);
        Kit one = lives(FIVE, "joke;", 1, 1);
        one.fine("by seed 1", one.it.many(7), 16);
        Kit again = lives(FIVE, "joke;", 0, 1);
        again.it.remake(2);
        again.fine("by the seed anew", again.it.live(0), 1);
        again.fine("by seed 0", again.it.many(7), 4);
    }

    // ---- MISSED

    private static Kit late(int year) {
        Kit k = Kit.of("thing a;thing b;voter v;hates v a 2;hates v b 1;");
        k.it.exempt(0, true);
        k.it.exempt(1, true);
        int left = year;
        while (left > 0) {
            k.it.year(Math.min(99, left));
            left -= Math.min(99, left);
        }
        k.it.exempt(0, false);
        k.it.exempt(1, false);
        return k;
    }

    /** YEARS beyond 9,999 (as a whole) are MISSED, each STEP of them once. */
    private static void yearsBeyond() {
        late(9990).fine("the YEAR", late(9990).it.many(5), 9990);
        for (int n = 1; n <= 9; n++) {
            Kit k = lives(late(9990), "year " + n + ";", 0, 1, Math.max(0, n - 2), n, Math.min(n, 2), 0, 0);
            k.fine("the YEAR", k.it.many(5), 9990 + n);
        }
        for (int n = 1; n <= 9; n++) {
            boolean beyond = n > 4;
            Kit k = lives(late(9995), "year " + n + ";", 0, 1, beyond ? 1 : Math.max(0, n - 2), beyond ? 0 : n, beyond ? 0 : Math.min(n, 2), 0, 0);
            k.fine("the YEAR", k.it.many(5), beyond ? 9995 : 9995 + n);
            k.fine("nothing is named", k.it.many(7), beyond ? 0 : (1 << Math.min(n, 2)) - 1);
        }
        Kit last = lives(late(9999), "year 1;year 9;loop 9;year 1;end;", 0, 12, 11, 0, 0, 0, 0);
        last.fine("the last YEAR", last.it.many(5), 9999);
        Kit rest = lives(late(9995), "year 9;year 5;year 4;year 1;", 0, 4, 2 + 2 + 1, 4, 2, 0, 0);
        rest.fine("the last YEAR", rest.it.many(5), 9999);
    }

    /** Each YEAR in which nothing is named is MISSED, and goes by. */
    private static void namelessYears() {
        lives("", "year 9;", 0, 1, 9, 9, 0, 0, 0);
        lives("thing a;voter v;", "year 1;year 9;", 0, 2, 10, 10, 0, 0, 0);
        lives("thing a exempt;voter v;hates v a 9;", "year 9;", 0, 1, 9, 9, 0, 0, 0);
        lives("thing a;voter v;hates v a 9;", "year 9;", 0, 1, 8, 9, 1, 0, 0);
        lives("thing a;thing b;makes b from a;voter v;hates v a 9;hates v b 9;", "year 1;year 1;", 0, 2, 1, 2, 1, 0, 0);
        Kit k = lives("thing a;voter v;hates v a 9;law 2;", "loop 30;year 9;end;", 0, 31, 269, 270, 1, 0, 0);
        k.fine("the YEAR", k.it.many(5), 270);
    }

    /** An unmake of what is UNMADE or EXEMPT, a remake of what is not UNMADE. */
    private static void missedDeeds() {
        String city = "thing a;thing b exempt;thing c;makes c from a;";
        lives(city, "unmake a;", 0, 1, 0, 0, 1, 0, 0);
        lives(city, "unmake a;unmake a;", 0, 2, 1, 0, 1, 0, 0);
        lives(city, "unmake b;", 0, 1, 1, 0, 0, 0, 0);
        lives(city, "unmake a;unmake c;", 0, 2, 0, 0, 2, 0, 0);
        lives(city, "unmake a;spare a;unmake a;remake a;unmake a;", 0, 5, 2, 0, 1, 0, 0);
        lives(city, "remake a;", 0, 1, 1, 0, 0, 0, 0);
        lives(city, "unmake a;remake c;remake a;remake a;", 0, 4, 2, 0, 1, 0, 0);
        lives(city, "spare b;unmake b;spare b;remake b;remake b;", 0, 5, 1, 0, 1, 0, 0);
        lives(city, "spare a;spare a;unmake a;", 0, 3, 0, 0, 1, 0, 0);
        Kit both = lives(city, "unmake c;unmake a;", 0, 2, 0, 0, 2, 0, 0);
        both.fine("both are UNMADE", both.it.many(7), 5);
        both.centuries("remake a;");
        both.fine("live", both.it.live(0), 1);
        both.fine("one is UNMADE", both.it.many(7), 4);
        Kit each = lives(city, "loop 5;unmake a;remake a;end;", 0, 11, 0, 0, 5, 0, 0);
        each.fine("nothing is left of it", each.it.many(7), 0);
        Kit spared = lives(city, "spare a;spare b;spare c;", 0, 3, 0, 0, 0, 0, 0);
        spared.fine("EXEMPT or not any more", spared.it.many(9), 5);
    }

    /** A joke without THINGS is MISSED, and there is no draw. */
    private static void jokesWithoutThings() {
        lives("", "joke;", 0, 1, 1, 0, 0, 0, 0);
        lives("thing a exempt;", "joke;joke;", 0, 2, 2, 0, 0, 0, 0);
        lives("thing a;thing b;makes a from b;makes b from a;", "joke;", 0, 1, 1, 0, 0, 0, 0);
        lives("thing a;", "joke;joke;joke;", 0, 3, 2, 0, 1, 1, 0);
        lives("thing a;thing b;makes b from a;", "unmake a;joke;", 0, 2, 1, 0, 1, 0, 0);
        for (int seed = 0; seed < 12; seed++) {
            // the draw behind the jokes without THINGS is the first
            String spares = "spare a;spare b;spare c;spare d;spare e;";
            Kit k = lives(FIVE, spares + "joke;joke;joke;" + spares + "joke;", seed, 14, 3, 0, 1, 1, 0);
            Kit plain = lives(FIVE, "joke;", seed, 1, 0, 0, 1, 1, 0);
            k.fine("by the same draw", k.it.many(7), plain.it.many(7));
            // a draw by one is a draw
            Kit one = lives("thing x;" + FIVE, spares + "joke;" + spares + "joke;", seed, 12, 0, 0, 2, 2, 0);
            int s = (seed * 2971 + 10663) % 65536;
            s = (s * 2971 + 10663) % 65536;
            one.fine("by the second draw", one.it.many(7), 1 | 2 << s / 8 % 5);
        }
    }

    // ---- when

    private static boolean goesIn(String city, String ahead, String test) {
        Kit k = Kit.of(city);
        k.centuries(ahead + "when " + test + ";stop;end;year 1;");
        Kit.due("taken: " + test, k.it.status(), 0);
        k.it.live(0);
        return k.it.lived(1) == 0;
    }

    private static void in(String city, String ahead, String test, boolean due) {
        Kit.due("when " + test + " behind " + ahead, goesIn(city, ahead, test) ? 1 : 0, due ? 1 : 0);
    }

    /** VOTES that a THING would get now by LAW 1 (0 to 99; 0 of what has no part in the VOTE). */
    private static void whensByVotes() {
        for (int law = 0; law <= 2; law++) {
            String city = "thing a;thing b;thing c exempt;thing d;thing e;makes e from d;law " + law + ";voter u;voter v;voter w;voter x;voter y;"
                + "voter z;hates u a 9;hates v a 9;hates w a 9;hates x a 9;hates y a 9;hates z a 9;hates u c 5;hates v c 6;hates z e 3;"
                + "hates u d 0;";
            for (int n : new int[] {0, 1, 53, 54, 55, 98, 99}) {
                in(city, "", "votes a<" + n, 54 < n);
                in(city, "", "votes a>" + n, 54 > n);
                in(city, "", "votes a=" + n, 54 == n);
            }
            for (int n : new int[] {0, 1, 10, 11, 12}) {
                in(city, "", "votes c<" + n, 0 < n);
                in(city, "", "votes c>" + n, false);
                in(city, "", "votes c=" + n, n == 0);
                in(city, "spare c;", "votes c<" + n, 11 < n);
                in(city, "spare c;", "votes c>" + n, 11 > n);
                in(city, "spare c;", "votes c=" + n, 11 == n);
                in(city, "unmake a;", "votes a=" + n, n == 0);
            }
            in(city, "", "votes b=0", true);
            in(city, "", "votes d=0", true);
            in(city, "", "votes e=3", true);
            in(city, "unmake d;", "votes e=3", false);
            in(city, "unmake d;", "votes e=0", true);
            in(city, "spare e;", "votes e<1", true);
        }
        in("thing a;", "", "votes a=0", true);
        in("thing a;", "", "votes a<0", false);
        in("thing a;", "", "votes a>0", false);
        in("thing a;", "", "votes a<99", true);
        in("thing a;", "", "votes a=99", false);
    }

    private static void whensByStandingAndDone() {
        String city = "thing a;thing b;makes b from a;thing c exempt;work w needs b;work x needs c;work y needs a c;";
        in(city, "", "stands a", true);
        in(city, "", "stands b", true);
        in(city, "unmake a;", "stands a", false);
        in(city, "unmake a;", "stands b", false);
        in(city, "unmake b;", "stands a", true);
        in(city, "unmake a;remake a;", "stands b", true);
        in(city, "", "stands c", true);
        in(city, "", "done w", true);
        in(city, "unmake a;", "done w", false);
        in(city, "unmake a;", "done x", true);
        in(city, "unmake b;", "done y", true);
        in(city, "spare c;unmake c;", "done y", false);
        in("thing a;thing b;makes a from b;makes b from a;", "", "stands a", false);
        // one that is not so goes on behind its own end
        lives(city, "when done w;unmake a;end;when done w;joke;when stands a;joke;end;joke;end;when stands c;unmake b;end;", 0, 5, 0, 0, 2, 0, 0);
    }

    // ---- loops and the 300

    /** loop n (1 to 99): as often; counted once each time it is come to from ahead. */
    private static void loops() {
        for (int n = 1; n <= 99; n++) {
            lives("thing a;", "loop " + n + ";remake a;end;", 0, 1 + n, n, 0, 0, 0, 0);
            lives("thing a;", "loop " + n + ";end;stop;", 0, 2, 0, 0, 0, 0, 0);
        }
        lives("thing a;", "loop 2;loop 3;loop 4;remake a;end;end;end;", 0, 1 + 2 * (1 + 3 * (1 + 4)), 24, 0, 0, 0, 0);
        lives("thing a;", "loop 4;when stands a;remake a;end;end;", 0, 1 + 4 * 2, 4, 0, 0, 0, 0);
        lives("thing a;", "loop 4;when stands a;unmake a;end;end;", 0, 1 + 2 + 3, 0, 0, 1, 0, 0);
        lives("thing a;", "loop 2;remake a;end;loop 3;remake a;end;", 0, 1 + 2 + 1 + 3, 5, 0, 0, 0, 0);
        lives("thing a;", "loop 99;loop 99;loop 99;end;end;end;", 0, 300, 0, 0, 0, 0, 1);
        lives("thing a;", "loop 99;loop 99;end;end;", 0, 100, 0, 0, 0, 0, 0);
        lives("thing a;", "loop 99;loop 99;end;loop 99;end;end;", 0, 199, 0, 0, 0, 0, 0);
        lives("thing a;", "loop 99;loop 1;end;loop 1;end;loop 1;end;end;", 0, 298, 0, 0, 0, 0, 0);
    }

    /** A text that comes to so many STEPS (4 and more), each of them MISSED but the loops. */
    private static String comesTo(int steps) {
        StringBuilder b = new StringBuilder();
        int left = steps;
        while (left >= 100) {
            b.append("loop 99;remake a;end;");
            left -= 100;
        }
        if (left >= 2) {
            b.append("loop ").append(left - 1).append(";remake a;end;");
        } else if (left == 1) {
            b.append("remake a;");
        }
        return b.toString();
    }

    /** At most 300 STEPS. */
    private static void threeHundredSteps() {
        for (int steps : new int[] {0, 1, 2, 99, 100, 101, 298, 299, 300}) {
            Kit k = Kit.of("thing a;");
            k.centuries(comesTo(steps));
            k.fine("live of " + steps, k.it.live(0), steps);
            k.fine("nothing is left", k.it.lived(4), 0);
        }
        for (int steps : new int[] {301, 302, 310, 400, 500}) {
            Kit k = Kit.of("thing a;");
            k.centuries(comesTo(steps));
            k.fine("live of " + steps, k.it.live(0), 300);
            k.fine("some are left", k.it.lived(4), 1);
        }
        // what the 301st would have done is not done
        Kit k = lives("thing a;thing b;", comesTo(299) + "unmake a;unmake b;", 0, 300);
        k.fine("the 300th, not the 301st", k.it.many(7), 1);
        k.fine("one is left", k.it.lived(4), 1);
        // by so many STEPS the greatest numbers
        Kit years = lives("thing a;", "loop 99;year 9;year 9;year 9;end;stop;", 0, 299, 297 * 9, 297 * 9, 0, 0, 0);
        years.fine("the YEAR", years.it.many(5), 297 * 9);
        lives("thing a;", "loop 99;unmake a;remake a;end;loop 99;end;", 0, 200, 0, 0, 99, 0, 0);
        lives("thing a;", "loop 99;joke;remake a;joke;end;", 0, 298, 98, 0, 100, 100, 0);
    }

    /** 1 if a STEP was left to be done (by the 300 alone), else 0: ends are none, nor what is not come to. */
    private static void leftByThe300Alone() {
        String city = "thing a;";
        lives(city, comesTo(298) + "loop 1;remake a;end;", 0, 300, 297 - 1 - 1 + 1, 0, 0, 0, 0);
        lives(city, comesTo(299) + "loop 99;end;", 0, 300, 296, 0, 0, 0, 0);
        lives(city, comesTo(299) + "when stands a;end;", 0, 300, 296, 0, 0, 0, 0);
        lives(city, comesTo(298) + "unmake a;when stands a;joke;end;", 0, 300, 295, 0, 1, 0, 0);
        lives(city, comesTo(299) + "when stands a;joke;end;", 0, 300, 296, 0, 0, 0, 1);
        lives(city, comesTo(299) + "loop 1;joke;end;", 0, 300, 296, 0, 0, 0, 1);
        lives(city, comesTo(298) + "loop 2;joke;end;", 0, 300, 295, 0, 1, 1, 1);
        lives(city, comesTo(298) + "loop 1;joke;end;", 0, 300, 295, 0, 1, 1, 0);
        lives(city, comesTo(300) + "loop 1;end;", 0, 300, 297, 0, 0, 0, 1);
        lives(city, comesTo(300) + "stop;", 0, 300, 297, 0, 0, 0, 1);
        lives(city, comesTo(299) + "stop;joke;", 0, 300, 296, 0, 0, 0, 0);
        lives(city, comesTo(298) + "stop;joke;joke;", 0, 299, 295, 0, 0, 0, 0);
    }

    /** stop: nothing more is come to, in a loop, too. */
    private static void stops() {
        lives("thing a;", "stop;", 0, 1, 0, 0, 0, 0, 0);
        lives("thing a;", "stop;stop;", 0, 1, 0, 0, 0, 0, 0);
        lives("thing a;", "loop 99;loop 99;loop 99;stop;end;end;end;joke;", 0, 4, 0, 0, 0, 0, 0);
        lives("thing a;", "when stands a;stop;end;joke;", 0, 2, 0, 0, 0, 0, 0);
        lives("thing a;", "unmake a;when stands a;stop;end;remake a;", 0, 3, 0, 0, 1, 0, 0);
        lives("thing a;", "loop 3;when stands a;joke;end;when stands a;stop;end;end;", 0, 1 + 3 + 2 + 2, 0, 0, 1, 1, 0);
    }

    // ---- 53: lived

    /** Of live() latest with STATUS 0, whatever came since. */
    private static void livedWhateverCameSince() {
        Kit k = Edges.rich();
        int[] first = new int[5];
        for (int what = 0; what < 5; what++) {
            first[what] = k.it.lived(what);
            k.fine("lived by back()", first[what], new int[] {0, 2, 3, 1, 0}[what]);
        }
        k.it.live(-1);
        k.it.live(10000);
        k.it.mean(0, 5);
        k.it.mark();
        k.it.back();
        k.it.back();
        k.city("thing a;");
        k.refused("no CENTURIES", k.it.live(0), 8);
        for (int what = 0; what < 5; what++) {
            k.fine("lived(" + what + ") since", k.it.lived(what), first[what]);
        }
        k.centuries("");
        k.fine("live of none", k.it.live(0), 0);
        for (int what = 0; what < 5; what++) {
            k.fine("lived(" + what + ") of none", k.it.lived(what), 0);
        }
    }

    /** All is as it becomes by it, and stays so; the CENTURIES can be lived again. */
    private static void itStaysSo() {
        Kit k = Kit.of("thing a;thing b;thing c;voter v;hates v a 2;hates v b 1;");
        k.centuries("year 1;spare c;");
        k.fine("live", k.it.live(0), 2);
        k.fine("the YEAR", k.it.many(5), 1);
        k.fine("UNMADE", k.it.many(7), 1);
        k.fine("EXEMPT", k.it.many(9), 4);
        k.fine("live again", k.it.live(0), 2);
        k.fine("the YEAR", k.it.many(5), 2);
        k.fine("UNMADE", k.it.many(7), 3);
        k.fine("EXEMPT", k.it.many(9), 0);
        k.fine("grudges stay", k.it.hate(0, 0), 2);
        k.fine("the LAW stays", k.it.many(4), 0);
    }

    // ---- 54: mean

    /** The mean of how many WORKS can be DONE behind the CENTURIES, each from what is now. */
    private static void meansOfSeeds() {
        StringBuilder b = new StringBuilder(FIVE);
        b.append("work q needs a;work r needs a b;work s needs c;work t needs d e;work u needs e;work v needs c d;");
        Kit k = Kit.of(b.toString());
        k.centuries("joke;joke;");
        for (int[] p : new int[][] {{0, 1}, {0, 20}, {9999, 1}, {9980, 20}, {77, 3}, {1234, 19}}) {
            int sum = 0;
            for (int seed = p[0]; seed < p[0] + p[1]; seed++) {
                Kit one = Kit.of(b.toString());
                one.centuries("joke;joke;");
                one.it.live(seed);
                sum += Integer.bitCount(one.it.many(10));
            }
            k.fine("mean(" + p[0] + ", " + p[1] + ")", k.it.mean(p[0], p[1]));
            Kit.due("by so many", k.it.top() * p[1], sum * k.it.bottom());
            k.fine("nothing is UNMADE", k.it.many(7), 0);
        }
        Kit six = Kit.of("thing a exempt;work q needs a;work r needs a;work s needs a;work t needs a;work u needs a;work v needs a;");
        six.centuries("joke;");
        six.fine("mean", six.it.mean(0, 20));
        Kit.due("six, the greatest", six.it.top(), 6);
        Kit.due("by 1", six.it.bottom(), 1);
        six.centuries("spare a;joke;");
        six.fine("mean", six.it.mean(0, 20));
        Kit.due("0, the least", six.it.top(), 0);
        Kit.due("by 1", six.it.bottom(), 1);
        Kit bare = new Kit();
        bare.it.centuries(0);
        bare.fine("of nothing", bare.it.mean(9999, 1));
        Kit.due("0", bare.it.top(), 0);
        Kit.due("by 1", bare.it.bottom(), 1);
    }
}
