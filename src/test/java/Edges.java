import java.util.ArrayList;
import java.util.List;
import java.util.function.Predicate;
import java.util.function.Supplier;
import java.util.function.ToLongFunction;

/**
 * What the tests of edges use: calls on a scene beside a twin that is spared them. All that can be seen of both must be
 * the same behind a call that changes nothing. Each look at an object keeps to the 512 calls that it is used for.
 */
final class Edges {
    static final int LEAST = Integer.MIN_VALUE;
    static final int MOST = Integer.MAX_VALUE;

    /** All the ways to look at an object; FRACTION and LIST are what some calls with STATUS 0 tell anew. */
    enum Look { FRACTION, LIST, LIVED, TRAYS, CITY, VOTES, STORY, TAPE, MARKS }

    private Edges() {
    }

    // ---- scenes

    /** Something of all: trays, marks, centuries, a tape, a fault, a fraction; things unmade, fallen, exempt. */
    static Kit rich() {
        Kit k = Kit.of(TextsTest.TOWN);
        k.it.mark();
        k.centuries("joke;year 2;");
        k.it.live(5);
        k.it.back();
        k.it.mark();
        k.it.grudge(2, 5, 7);
        k.it.year(1);
        k.it.remake(0);
        k.centuries("loop 3;joke;year 1;end;when done evening;unmake wood;end;");
        k.it.mark();
        k.it.unmake(1);
        k.it.exempt(6, true);
        k.it.rule(1);
        k.it.agenda(96 + 5);
        k.it.aheadOdds(0, 6);
        for (int t = 0; t < 3; t++) {
            k.it.tray(t, t, t == 0 ? 60 : 8 + t);
            k.it.write(t, 0, 11 + t);
            k.it.write(t, 7 + t, -99 - t);
        }
        k.it.city(k.feed("thing a;ahead a b;"));
        k.feed("thing z;thing y worth 7;");
        return k;
    }

    /** As much as can be of all: the greatest numbers, a full tape, three marks, trays of sixty. */
    static Kit full() {
        Kit k = Kit.of(fullText());
        k.centuries(fullStory());
        for (int m = 0; m < 3; m++) {
            k.it.mark();
            k.it.grudge(m, m, m + 3);
        }
        for (int t = 0; t < 4; t++) {
            k.it.tray(t, t, 60);
            k.it.write(t, 59, Long.MIN_VALUE | 7L << 4 * t);
        }
        for (int n = 0; n < 45; n++) {
            k.it.feed(0x6c617720, 0x303b2020, 0x20202020, 0x20202020, 0x20202020);
        }
        return k;
    }

    /** Nothing of all. */
    static Kit bare() {
        return new Kit();
    }

    static String fullText() {
        StringBuilder b = new StringBuilder();
        for (char c = 'a'; c <= 'l'; c++) {
            b.append("thing ").append(c).append(" worth 99;");
        }
        for (int m = 0; m < 16; m++) {
            b.append("makes ").append((char) ('l' - m % 5)).append(" from ").append((char) ('a' + m % 7)).append(';');
        }
        for (char c = 'm'; c <= 'r'; c++) {
            b.append("work ").append(c).append(" needs ").append((char) (c - 6)).append(';');
        }
        for (char c = 's'; c <= 'x'; c++) {
            b.append("voter ").append(c).append(';');
        }
        for (int h = 0; h < 20; h++) {
            b.append("hates ").append((char) ('s' + h % 6)).append(' ').append((char) ('a' + h % 12)).append(" 9;");
        }
        return b.append("law 2;").toString();
    }

    /** Thirty steps and three ends, three within one another. */
    static String fullStory() {
        return "loop 99;when stands a;loop 9;joke;end;end;end;" + "remake a;".repeat(26);
    }

    /** The tokens with a piece ahead of one of them, or in its place. */
    static String with(String[] tokens, int at, String piece, boolean inPlace) {
        StringBuilder b = new StringBuilder();
        for (int i = 0; i <= tokens.length; i++) {
            if (i == at) {
                b.append(piece).append(' ');
            }
            if (i < tokens.length && (i != at || !inPlace)) {
                b.append(tokens[i]).append(' ');
            }
        }
        return b.toString();
    }

    // ---- calls beside a twin

    /** A call that is refused with NONE, on a scene: nothing but STATUS may change. */
    static void refused(String call, Supplier<Kit> scene, ToLongFunction<Unmade> made, int status) {
        beside(call, scene, made, Unmade.NONE, status);
    }

    /** A call that is refused with false. */
    static void refusedSo(String call, Supplier<Kit> scene, Predicate<Unmade> made, int status) {
        beside(call, scene, x -> made.test(x) ? 1 : 0, 0, status);
    }

    /** A call with STATUS 0 that changes nothing, but for what some looks see. */
    static void asks(String call, Supplier<Kit> scene, ToLongFunction<Unmade> made, long want, Look... butFor) {
        beside(call, scene, made, want, 0, butFor);
    }

    /** A call of truth with STATUS 0 that changes nothing, but for what some looks see. */
    static void asksSo(String call, Supplier<Kit> scene, Predicate<Unmade> made, Look... butFor) {
        beside(call, scene, x -> made.test(x) ? 1 : 0, 1, 0, butFor);
    }

    static void beside(String call, Supplier<Kit> scene, ToLongFunction<Unmade> made, long want, int status, Look... butFor) {
        for (Look look : Look.values()) {
            if (List.of(butFor).contains(look)) {
                continue;
            }
            Kit one = scene.get();
            Kit twin = scene.get();
            Kit.due(call, made.applyAsLong(one.it), want);
            Kit.due("status of " + call, one.it.status(), status);
            same(look + " behind " + call, seen(one, look), seen(twin, look));
        }
    }

    /** Both must look alike. */
    static void alike(String what, Supplier<Kit> one, Supplier<Kit> twin, Look... butFor) {
        for (Look look : Look.values()) {
            if (!List.of(butFor).contains(look)) {
                same(look + " " + what, seen(one.get(), look), seen(twin.get(), look));
            }
        }
    }

    private static void same(String what, List<Long> got, List<Long> want) {
        Kit.due("how much is seen: " + what, got.size(), want.size());
        for (int i = 0; i < Math.min(got.size(), want.size()); i++) {
            Kit.due(what + ", number " + i, got.get(i), want.get(i));
        }
    }

    // ---- looks

    private static List<Long> seen(Kit k, Look look) {
        List<Long> seen = new ArrayList<>();
        switch (look) {
            case FRACTION:
                seen.add(k.it.top());
                seen.add(k.it.bottom());
                break;
            case LIST:
                for (int i = -1; i < 8; i++) {
                    add(seen, k, k.it.agendaAt(i));
                }
                break;
            case LIVED:
                for (int what = 0; what < 5; what++) {
                    add(seen, k, k.it.lived(what));
                }
                break;
            case TRAYS:
                seeTrays(seen, k);
                break;
            case CITY:
                seeCity(seen, k);
                break;
            case VOTES:
                seeVotes(seen, k);
                break;
            case STORY:
                seeStory(seen, k);
                break;
            case TAPE:
                seeTape(seen, k);
                break;
            default:
                seeMarks(seen, k);
        }
        return seen;
    }

    /** An answer, and STATUS where it is NONE. */
    private static void add(List<Long> seen, Kit k, long answer) {
        seen.add(answer);
        if (answer == Unmade.NONE) {
            seen.add((long) k.it.status());
        }
    }

    private static void seeTrays(List<Long> seen, Kit k) {
        for (int t = 0; t < 4; t++) {
            for (int place = 0; place < 60; place++) {
                long number = k.it.read(t, place);
                seen.add(number);
                if (number == Unmade.NONE) {
                    long status = k.it.status();
                    seen.add(status);
                    if (status != 0) {
                        break;
                    }
                }
            }
        }
        for (int t = 0; t < 4; t++) {
            // how it is cut tells its sort
            k.it.write(t, 0, 0x8182838485868788L);
            add(seen, k, k.it.read(t, 0));
        }
    }

    private static void seeCity(List<Long> seen, Kit k) {
        seen.add((long) k.it.fault(0));
        seen.add((long) k.it.fault(1));
        for (int what = 0; what < 12; what++) {
            add(seen, k, k.it.many(what));
        }
        for (int t = 0; t < 12; t++) {
            for (int what = 0; what < 4; what++) {
                add(seen, k, k.it.thing(t, what));
            }
        }
        for (int m = 0; m < 16; m++) {
            add(seen, k, k.it.making(m, 0));
            add(seen, k, k.it.making(m, 1));
        }
        for (int w = 0; w < 6; w++) {
            add(seen, k, k.it.needs(w));
        }
        add(seen, k, k.it.histories());
        add(seen, k, k.it.firsts());
        add(seen, k, k.it.clash());
        add(seen, k, k.it.keystone());
        add(seen, k, k.it.later(0));
        add(seen, k, k.it.later(2));
        add(seen, k, k.it.later(99));
    }

    private static void seeVotes(List<Long> seen, Kit k) {
        for (int v = 0; v < 6; v++) {
            for (int t = 0; t < 12; t++) {
                add(seen, k, k.it.hate(v, t));
            }
        }
        for (int t = 0; t < 12; t++) {
            add(seen, k, k.it.votes(t));
            add(seen, k, k.it.goneBy(t));
        }
        add(seen, k, k.it.vote());
        for (int law = 0; law < 3; law++) {
            add(seen, k, k.it.voteBy(law));
        }
        add(seen, k, k.it.year(3));
        add(seen, k, k.it.many(5));
        add(seen, k, k.it.many(7));
    }

    private static void seeStory(List<Long> seen, Kit k) {
        add(seen, k, k.it.mean(3, 7) ? 1 : Unmade.NONE);
        seen.add(k.it.top());
        seen.add(k.it.bottom());
        add(seen, k, k.it.live(77));
        for (int what = 0; what < 5; what++) {
            add(seen, k, k.it.lived(what));
        }
        seeDeeds(seen, k);
    }

    private static void seeDeeds(List<Long> seen, Kit k) {
        for (int what = 4; what < 12; what++) {
            add(seen, k, k.it.many(what));
        }
    }

    private static void seeTape(List<Long> seen, Kit k) {
        long fed = k.it.feed(0x6c617720, 0x313b2020, 0x20202020, 0x20202020, 0x20202020);
        seen.add(fed);
        add(seen, k, k.it.city(fed == Unmade.NONE ? 900 : (int) fed));
        seen.add((long) k.it.fault(0));
        seen.add((long) k.it.fault(1));
        seeDeeds(seen, k);
        seen.add((long) k.it.feed(0, 0, 0, 0, 0));
    }

    private static void seeMarks(List<Long> seen, Kit k) {
        // the city that is there is seen by other looks, and so is the tape, that is empty then
        k.it.city(0);
        for (int m = 0; m < 4; m++) {
            add(seen, k, k.it.back());
            seeDeeds(seen, k);
            for (int v = 0; v < 6; v++) {
                add(seen, k, k.it.hate(v, v));
                add(seen, k, k.it.hate(v, 5));
            }
            for (int t = 0; t < 12; t++) {
                add(seen, k, k.it.thing(t, 0));
            }
            int steps = k.it.live(3);
            add(seen, k, steps);
            if (steps != Unmade.NONE) {
                add(seen, k, k.it.lived(2));
                seeDeeds(seen, k);
            }
            add(seen, k, k.centuries("unmake nail;"));
        }
    }
}
