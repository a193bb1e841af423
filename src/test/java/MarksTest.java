import java.util.ArrayList;
import java.util.List;
import java.util.Random;

/** Promises 10, 55 and 56: all that a city is comes back with a mark, and none of it stays in another city. */
final class MarksTest {
    public static void main(String[] args) {
        for (int seed = 0; seed < 400; seed++) {
            takenBack(new Random(seed));
            takenAnew(new Random(seed));
        }
        Kit.end("MarksTest");
    }

    private static String text(Random r) {
        String text = Model.byChance(r, 8).text.toString();
        return text.length() <= 900 ? text : TextsTest.TOWN;
    }

    /** All answers that tell of the city and its centuries, these lived and taken back. */
    private static List<Long> facts(Kit k) {
        Unmade x = k.it;
        List<Long> all = new ArrayList<>();
        for (int i = 0; i < 16; i++) {
            all.add((long) x.many(i));
            all.add((long) x.needs(i));
            all.add((long) x.making(i, 0));
            all.add((long) x.making(i, 1));
            all.add((long) x.falls(i));
            all.add((long) x.goneBy(i));
            all.add((long) x.ends(i));
            all.add((long) x.later(i));
            all.add((long) x.votes(i));
            all.add((long) x.againSet(i));
            for (int j = 0; j < 12; j++) {
                all.add((long) x.thing(i, j));
                all.add((long) x.hate(i, j));
            }
        }
        all.add(x.histories());
        all.add((long) x.vote());
        all.add((long) x.live(5));
        all.add((long) x.many(7));
        all.add((long) x.many(9));
        return all;
    }

    private static void busy(Kit k, Random r) {
        for (int i = 0; i < 6; i++) {
            k.it.unmake(r.nextInt(8));
            k.it.exempt(r.nextInt(8), r.nextBoolean());
            k.it.grudge(r.nextInt(6), r.nextInt(8), r.nextInt(10));
        }
        k.it.rule(r.nextInt(3));
        k.it.year(1 + r.nextInt(3));
        k.centuries(r.nextBoolean() ? "joke;year 2;" : "loop 2;joke;spare ta;end;when stands ta;joke;end;");
    }

    private static void same(String what, List<Long> got, List<Long> want) {
        for (int i = 0; i < want.size(); i++) {
            Kit.due(what + " " + i, got.get(i), want.get(i));
        }
    }

    private static void takenBack(Random r) {
        Kit k = new Kit();
        k.city(text(r));
        busy(k, r);
        k.it.mark();
        List<Long> first = facts(k);
        busy(k, r);
        k.it.mark();
        List<Long> second = facts(k);
        k.city(text(r));
        busy(k, r);
        k.it.mark();
        List<Long> third = facts(k);
        k.city(text(r));
        k.city(text(r));
        k.it.back();
        same("third", facts(k), third);
        k.it.back();
        same("second", facts(k), second);
        k.it.back();
        same("first", facts(k), first);
    }

    private static void takenAnew(Random r) {
        Kit k = new Kit();
        for (int i = 0; i < 3; i++) {
            k.city(text(r));
            busy(k, r);
        }
        String last = text(r);
        Kit fresh = new Kit();
        fresh.city(last);
        k.city("thing a;thing b;makes a from b;work w needs a;voter v;hates v a 9;law 2;ahead a b;law");
        k.city(last);
        k.fine("the year", k.it.many(5), 0);
        k.refused("no centuries", k.it.live(0), 8);
        same("anew", facts(k), facts(fresh));
    }
}
