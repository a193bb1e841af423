/** Promises 35 to 44: plans. */
final class PlansTest {
    public static void main(String[] args) {
        keeping();
        striking();
        agendas();
        games();
        again();
        Kit.end("PlansTest");
    }

    private static void keeping() {
        Kit k = Kit.of(TextsTest.TOWN);
        k.refused("keep(3, 99)", k.it.keep(3, 99), 2);
        k.refused("keep(-1, 0)", k.it.keep(-1, 0), 2);
        k.refused("keep(0, 13)", k.it.keep(0, 13), 5);
        k.refused("keep(0, -1)", k.it.keep(0, -1), 5);
        k.refused("keepSet(3, 99)", k.it.keepSet(3, 99), 2);
        k.refused("keepSet(0, 13)", k.it.keepSet(0, 13), 5);
        k.refused("keepSet(0, -1)", k.it.keepSet(0, -1), 5);
        k.fine("keep(1, 0)", k.it.keep(1, 0), 0);
        k.fine("keepSet(1, 0)", k.it.keepSet(1, 0), 0);
        k.fine("keep(1, 1)", k.it.keep(1, 1), 3);
        k.fine("keepSet(1, 1)", k.it.keepSet(1, 1), 19);
        k.fine("keepSet(1, 12)", k.it.keepSet(1, 12), 19);
        k.fine("keep(0, 12)", k.it.keep(0, 12), 0);
        k.fine("keepSet(2, 12)", k.it.keepSet(2, 12), 1);
        k.fine("nothing is exempt by it", k.it.many(9), 8);
        k.it.unmake(4);
        k.refused("it can't be kept", k.it.keep(1, 0), 8);
        k.refused("nor its set", k.it.keepSet(1, 12), 8);
        Kit least = Kit.of("thing a;thing b;thing c;voter u;voter v;hates u a 1;hates v b 1;hates u c 9;hates v c 9;work w needs a b;");
        least.fine("for a year nothing", least.it.keepSet(0, 1), 0);
        least.fine("for two both, not the decoy", least.it.keepSet(0, 2), 3);
        Kit decoy = Kit.of("thing a;thing b;thing c;voter u;voter v;hates u a 5;hates u b 3;hates v b 2;hates v c 9;work w needs a;");
        // a, c have a vote each, the first is named; with a exempt it is not
        decoy.fine("one", decoy.it.keep(0, 3), 1);
        decoy.fine("the least number", decoy.it.keepSet(0, 3), 1);
    }

    private static void striking() {
        Kit k = Kit.of(TextsTest.TOWN);
        k.refused("strike(3)", k.it.strike(3), 2);
        k.refused("strike(-1)", k.it.strike(-1), 2);
        k.refused("strikeSet(3)", k.it.strikeSet(3), 2);
        k.refused("strikeSet(-1)", k.it.strikeSet(-1), 2);
        int[] sets = {4, 1, 1};
        for (int w = 0; w < 3; w++) {
            k.fine("strike(" + w + ")", k.it.strike(w), 1);
            k.fine("strikeSet(" + w + ")", k.it.strikeSet(w), sets[w]);
        }
        k.it.exempt(2, true);
        k.refused("exempt ones not", k.it.strike(0), 8);
        k.refused("nor their set", k.it.strikeSet(0), 8);
        k.it.unmake(1);
        k.fine("it can't be done now", k.it.strike(1), 0);
        k.fine("by none", k.it.strikeSet(1), 0);
        Kit two = Kit.of("thing a;thing b;thing c exempt;makes c from a;makes c from b;work w needs c;");
        two.fine("both ways", two.it.strike(0), 2);
        two.fine("both ways", two.it.strikeSet(0), 3);
        two.fine("nothing is unmade by it", two.it.many(7), 0);
        two.it.unmake(0);
        two.fine("one is left", two.it.strikeSet(0), 2);
    }

    private static void agendas() {
        Kit k = Kit.of(TextsTest.TOWN);
        k.refused("agendaAt ahead of any", k.it.agendaAt(0), 8);
        k.refused("agenda(0)", k.it.agenda(0), 5);
        k.refused("agenda(256)", k.it.agenda(256), 5);
        k.refused("agenda(-1)", k.it.agenda(-1), 5);
        k.refused("agenda(least)", k.it.agenda(Integer.MIN_VALUE), 5);
        k.refused("agenda of seven", k.it.agenda(127), 5);
        k.fine("agenda(112)", k.it.agenda(112), 6);
        int[] order = {6, 4, 5};
        for (int i = 0; i < 3; i++) {
            k.fine("agendaAt(" + i + ")", k.it.agendaAt(i), order[i]);
        }
        k.refused("agendaAt(3)", k.it.agendaAt(3), 8);
        k.refused("agendaAt(-1)", k.it.agendaAt(-1), 8);
        k.fine("nothing is unmade by it", k.it.many(7), 0);
        k.it.unmake(0);
        k.refused("not all stand", k.it.agenda(3), 9);
        k.refused("too many ahead of that", k.it.agenda(127), 5);
        k.fine("the latest with 0 stays", k.it.agendaAt(0), 6);
        k.fine("an exempt one too", k.it.agenda(8), 0);
        k.fine("agendaAt(0)", k.it.agendaAt(0), 3);
        k.refused("agendaAt(1)", k.it.agendaAt(1), 8);
        k.fine("another city", k.it.city(0), 0);
        k.fine("the latest stays", k.it.agendaAt(0), 3);
        Kit six = Kit.of("thing a;thing b;thing c;thing d;thing e;thing f;work w needs a;work x needs f;");
        six.fine("six", six.it.agenda(63), 9);
        int[] lost = {1, 2, 3, 4, 0, 5};
        for (int i = 0; i < 6; i++) {
            six.fine("agendaAt(" + i + ")", six.it.agendaAt(i), lost[i]);
        }
        Kit fallen = Kit.of("thing a;thing b;thing c;makes b from a;work w needs b;work x needs c;work y needs a;");
        fallen.fine("what has fallen by then, too", fallen.it.agenda(7), 3);
        fallen.fine("agendaAt(0)", fallen.it.agendaAt(0), 1);
        fallen.fine("agendaAt(1)", fallen.it.agendaAt(1), 0);
    }

    private static void games() {
        Kit k = Kit.of(TextsTest.TOWN);
        k.refused("game(8, 1)", k.it.game(8, 1), 5);
        k.refused("game(-1, 1)", k.it.game(-1, 1), 5);
        k.refused("game(0, 0)", k.it.game(0, 0), 5);
        k.refused("game(0, 5)", k.it.game(0, 5), 5);
        k.refused("firstMove(8, 1)", k.it.firstMove(8, 1), 5);
        k.refused("firstMove(-1, 1)", k.it.firstMove(-1, 1), 5);
        k.refused("firstMove(0, 0)", k.it.firstMove(0, 0), 5);
        k.refused("firstMove(0, 5)", k.it.firstMove(0, 5), 5);
        k.fine("all are his: he unmakes the song", k.it.game(7, 1), 3);
        k.fine("first move", k.it.firstMove(7, 1), 6);
        k.fine("none is his: he unmakes the nail", k.it.game(0, 1), -1);
        k.fine("first move", k.it.firstMove(0, 1), 0);
        k.fine("evening is his", k.it.game(1, 1), 1);
        k.fine("nail ends both others", k.it.firstMove(1, 1), 0);
        k.fine("then lamp goes", k.it.game(1, 2), 0);
        k.fine("another game", k.it.game(7, 2), 1);
        k.fine("a first move behind another game", k.it.firstMove(0, 1), 0);
        k.fine("a game behind another first move", k.it.game(7, 1), 3);
        k.fine("a first move by other turns", k.it.firstMove(7, 2), moveOfNew(7, 2));
        k.fine("nothing is unmade by it", k.it.many(7), 0);
        Kit spared = Kit.of("thing a exempt;work w needs a;");
        spared.fine("all pass", spared.it.game(1, 4), 1);
        spared.fine("all pass", spared.it.game(0, 3), -1);
        spared.refused("he passes", spared.it.firstMove(1, 4), 8);
        Kit one = Kit.of("thing a;work w needs a;");
        one.fine("he must", one.it.game(1, 1), 0);
        one.fine("first move", one.it.firstMove(1, 4), 0);
    }

    /** The first move that a new object tells. */
    private static int moveOfNew(int works, int turns) {
        return Kit.of(TextsTest.TOWN).it.firstMove(works, turns);
    }

    private static void again() {
        Kit k = Kit.of(TextsTest.TOWN);
        k.refused("again(8)", k.it.again(8), 2);
        k.refused("again(-1)", k.it.again(-1), 2);
        k.refused("againSet(8)", k.it.againSet(8), 2);
        k.refused("againSet(-1)", k.it.againSet(-1), 2);
        int[] sets = {0, 0, 16, 0, 1, 2, 0, 8};
        for (int t = 0; t < 8; t++) {
            k.fine("againSet(" + t + ")", k.it.againSet(t), sets[t]);
            k.fine("again(" + t + ")", k.it.again(t), Integer.bitCount(sets[t]));
        }
        k.it.unmake(1);
        k.fine("boat by cart", k.it.againSet(5), 12);
        k.fine("two makings", k.it.again(5), 2);
        k.refused("bridge can't be had", k.it.again(4), 8);
        k.refused("nor wood", k.it.againSet(1), 8);
        k.it.unmake(7);
        k.refused("none of an unmade one", k.it.again(5), 8);
        k.refused("unmade though it could be made", k.it.again(7), 8);
        Kit ways = Kit.of("thing a;thing b;thing c;thing d;makes d from b c;makes b from a;makes c from a;makes d from c;makes d from b;");
        ways.fine("of several the least number", ways.it.againSet(3), 12);
        ways.it.unmake(2);
        ways.fine("the other one", ways.it.againSet(3), 18);
        StringBuilder chain = new StringBuilder("thing a;");
        for (char c = 'b'; c < 'm'; c++) {
            chain.append("thing ").append(c).append(";makes ").append(c).append(" from ").append((char) (c - 1)).append(';');
        }
        Kit twelve = Kit.of(chain.toString());
        twelve.fine("a chain of eleven", twelve.it.again(11), 11);
        twelve.fine("all of them", twelve.it.againSet(11), 2047);
        Kit loop = Kit.of("thing a;thing b;thing c;makes a from b;makes b from a;makes b from c;");
        loop.fine("not from each other", loop.it.againSet(0), 5);
    }
}
