import java.util.Random;

/**
 * Calls by chance, with wrong numbers among them, on two objects: the second one is spared the calls that the
 * first one refused, and must answer all others alike. No call may throw.
 */
final class RefusalTest {
    private static final String[] CITIES = {
        TextsTest.TOWN,
        TextsTest.TOWN + "law 2;",
        full(),
        "thing a;thing b;thing c;makes a from b;makes b from a;ahead a b;ahead b a;voter v;hates v c 3;work w needs c;",
        "",
        "thing a exempt;thing a;",
        "thing a worth 12345;",
    };
    private static final String[] STORIES = {
        "year 1;joke;loop 3;unmake nail;remake nail;end;",
        "loop 99;joke;year 9;when stands lamp;spare oil;end;end;",
        "joke;joke;",
        "",
        "unmake nobody;",
        "loop 1;",
    };
    private static final int[] ODD = {-1, Integer.MIN_VALUE, Integer.MAX_VALUE, 12, 13, 60, 61, 99, 100, 255, 256, 4095, 4096, 9999, 10000};

    private final Random r;
    private final Kit a = new Kit();
    private final Kit b = new Kit();

    /** A city with as much of all as can be. */
    private static String full() {
        StringBuilder b = new StringBuilder();
        for (char c = 'a'; c < 'm'; c++) {
            b.append("thing ").append(c).append(";");
        }
        for (int i = 0; i < 16; i++) {
            b.append("makes ").append((char) ('d' + i % 9)).append(" from ").append((char) ('a' + i % 3)).append(";");
        }
        for (char c = 'n'; c < 't'; c++) {
            b.append("work ").append(c).append(" needs ").append((char) (c - 7)).append(" ").append((char) (c - 8)).append(";");
        }
        for (char c = 't'; c <= 'y'; c++) {
            b.append("voter ").append(c).append(";");
            for (int i = 0; i < 4; i++) {
                b.append("hates ").append(c).append(" ").append((char) ('a' + (c * 5 + i * 7) % 12)).append(" ").append(9 - i).append(";");
            }
        }
        return b.toString();
    }

    private RefusalTest(long seed) {
        r = new Random(seed);
    }

    public static void main(String[] args) {
        int refused = 0;
        for (int seed = 0; seed < 600; seed++) {
            refused += new RefusalTest(seed).run();
        }
        Kit.due("some calls were refused", refused > 10000 ? 1 : 0, 1);
        Kit.end("RefusalTest");
    }

    private int run() {
        int refused = 0;
        for (int call = 0; call < 300; call++) {
            int which = call == 0 ? 53 : r.nextInt(62);
            int[] p = new int[5];
            for (int i = 0; i < 5; i++) {
                p[i] = number();
            }
            boolean yes = r.nextBoolean();
            long v = r.nextLong();
            long got = ask(a, which, p, yes, v);
            int status = a.it.status();
            if (hasStatus(which) && status != 0) {
                refused++;
                Kit.due("answer of call " + which, got, isTruth(which) ? 0 : Unmade.NONE);
            }
            if (!hasStatus(which) || status == 0 || status == 10) {
                Kit.due("twin of call " + which, ask(b, which, p, yes, v), got);
            }
        }
        return refused;
    }

    private int number() {
        switch (r.nextInt(6)) {
            case 0: return ODD[r.nextInt(ODD.length)];
            case 1: return r.nextInt(300) - 10;
            case 2: return r.nextInt(20) - 4;
            default: return r.nextInt(5);
        }
    }

    private static boolean hasStatus(int which) {
        return which >= 4;
    }

    private static boolean isTruth(int which) {
        return which >= 4 && which <= 11;
    }

    private long ask(Kit k, int which, int[] p, boolean yes, long v) {
        Unmade x = k.it;
        switch (which) {
            case 0: return x.top();
            case 1: return x.bottom();
            case 2: return x.fault(p[0]);
            case 3: return x.feed(p[0], p[1], 0x20202020, p[3], p[4]);
            case 4: return x.tray(p[0], p[1], p[2]) ? 1 : 0;
            case 5: return x.write(p[0], p[1], v) ? 1 : 0;
            case 6: return x.pour(p[0], p[1], p[2], p[3], p[4]) ? 1 : 0;
            case 7: return x.exempt(p[0], yes) ? 1 : 0;
            case 8: return x.grudge(p[0], p[1], p[2]) ? 1 : 0;
            case 9: return x.rule(p[0]) ? 1 : 0;
            case 10: return x.aheadOdds(p[0], p[1]) ? 1 : 0;
            case 11: return x.mean(p[0], p[1]) ? 1 : 0;
            case 12: return x.read(p[0], p[1]);
            case 13: return x.city(p[0]);
            case 14: return x.centuries(p[0]);
            case 15: return x.many(p[0]);
            case 16: return x.thing(p[0], p[1]);
            case 17: return x.making(p[0], p[1]);
            case 18: return x.needs(p[0]);
            case 19: return x.hate(p[0], p[1]);
            case 20: return x.copyWorth(p[0]);
            case 21: return x.year(p[0]);
            case 22: return x.unmake(p[0]);
            case 23: return x.remake(p[0]);
            case 24: return x.vote();
            case 25: return x.votes(p[0]);
            case 26: return x.voteBy(p[0]);
            case 27: return x.sway(p[0]);
            case 28: return x.falls(p[0]);
            case 29: return x.loss(p[0]);
            case 30: return x.keystone();
            default: return askMore(k, which, p);
        }
    }

    private long askMore(Kit k, int which, int[] p) {
        Unmade x = k.it;
        switch (which) {
            case 31: return x.goneBy(p[0]);
            case 32: return x.ends(p[0]);
            case 33: return x.later(p[0]);
            case 34: return x.keep(p[0], p[1]);
            case 35: return x.keepSet(p[0], p[1]);
            case 36: return x.strike(p[0]);
            case 37: return x.strikeSet(p[0]);
            case 38: return x.agenda(p[0]);
            case 39: return x.agendaAt(p[0]);
            case 40: return x.game(p[0], p[1]);
            case 41: return x.firstMove(p[0], p[1]);
            case 42: return x.again(p[0]);
            case 43: return x.againSet(p[0]);
            case 44: return x.wasIt(p[0]);
            case 45: return x.tells(p[0]);
            case 46: return x.sure(p[0]);
            case 47: return x.histories();
            case 48: return x.firsts();
            case 49: return x.clash();
            case 50: return x.live(p[0]);
            case 51: return x.lived(p[0]);
            case 52: return x.mark();
            case 53:
            case 54: return k.city(CITIES[Math.floorMod(p[0], CITIES.length)]);
            case 55:
            case 56: return k.centuries(STORIES[Math.floorMod(p[0], STORIES.length)]);
            case 57: return x.back();
            case 58: return x.live(Math.floorMod(p[0], 10000));
            case 59: return x.agenda(Math.floorMod(p[0], 64));
            case 60: return x.tells(Math.floorMod(p[0] * 31, 4096));
            default: return x.sure(Math.floorMod(p[0] * 31, 4096));
        }
    }
}
