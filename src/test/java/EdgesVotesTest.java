/** Promises 25 to 28 and the terms of the VOTE: no VOTE, as many, the first, the last, the least and the most that sways. */
final class EdgesVotesTest {
    private static final int LEAST = Edges.LEAST;
    private static final int MOST = Edges.MOST;
    private static final int[] NO_THINGS = {LEAST, LEAST + 1, -2, -1, 8, 9, 11, 12, 13, 32, 256, MOST - 1, MOST};

    public static void main(String[] args) {
        voteOfNone();
        votesRefused();
        voteByRefused();
        swayRefused();
        asksChangeNothing();
        theMostOfSeveralTheFirst();
        lawZero();
        lawOne();
        lawTwoFewestOfSeveralTheLast();
        lawTwoLastRound();
        swayByLawZero();
        swayByLawOne();
        Kit.end("EdgesVotesTest");
    }

    private static Kit hating(String things, int law, String... grudges) {
        StringBuilder b = new StringBuilder();
        for (String thing : things.split(" ")) {
            b.append("thing ").append(thing.replace("!", " exempt")).append(';');
        }
        for (int v = 0; v < grudges.length; v++) {
            String voter = "v" + (char) ('a' + v);
            b.append("voter ").append(voter).append(';');
            for (String grudge : grudges[v].trim().split(" ")) {
                if (!grudge.isEmpty()) {
                    b.append("hates ").append(voter).append(' ').append(grudge, 0, grudge.length() - 1).append(' ');
                    b.append(grudge.charAt(grudge.length() - 1)).append(';');
                }
            }
        }
        return Kit.of(b.append("law ").append(law).append(';').toString());
    }

    // ---- STATUS

    /** 8: none; nothing that STANDS and is not EXEMPT has a VOTE. */
    private static void voteOfNone() {
        String[] cities = {"", "thing a;", "voter v;", "thing a;voter v;", "thing a;voter v;hates v a 0;", "thing a exempt;voter v;hates v a 9;",
            "thing a;thing b;makes a from b;makes b from a;voter v;hates v a 9;hates v b 9;"};
        for (String city : cities) {
            for (int law = 0; law <= 2; law++) {
                String text = city + "law " + law + ";";
                int by = law;
                Edges.refused("vote() of " + text, () -> Kit.of(text), Unmade::vote, 8);
                Edges.refused("voteBy(" + law + ") of " + text, () -> Kit.of(city), x -> x.voteBy(by), 8);
                Kit k = Kit.of(text);
                k.fine("a YEAR", k.it.year(1), 0);
                if (k.it.many(0) > 0) {
                    k.fine("votes(0) of " + text, k.it.votes(0), 0);
                }
            }
        }
        Edges.refused("vote() of what is unmade", () -> {
            Kit k = hating("a b", 0, "a9");
            k.it.unmake(0);
            return k;
        }, Unmade::vote, 8);
        Edges.asks("vote() by the least hatred", () -> hating("a b", 0, "b1"), Unmade::vote, 1);
        Edges.asks("vote() by the least hatred, law 1", () -> hating("a b", 1, "b1"), Unmade::vote, 1);
        Edges.asks("vote() by the least hatred, law 2", () -> hating("a b", 2, "b1"), Unmade::vote, 1);
    }

    private static void votesRefused() {
        for (int t : NO_THINGS) {
            Edges.refused("votes(" + t + ")", Edges::rich, x -> x.votes(t), 2);
        }
        Edges.refused("votes(12) of twelve", Edges::full, x -> x.votes(12), 2);
        Edges.refused("votes(0) of none", Edges::bare, x -> x.votes(0), 2);
    }

    /** By another LAW (5; 8: none). */
    private static void voteByRefused() {
        for (int law : new int[] {LEAST, LEAST + 1, -3, -2, -1, 3, 4, 256, 257, MOST - 1, MOST}) {
            Edges.refused("voteBy(" + law + ")", Edges::rich, x -> x.voteBy(law), 5);
            Edges.refused("voteBy(" + law + ") of all", Edges::full, x -> x.voteBy(law), 5);
            Edges.refused("voteBy(" + law + ") of nothing: 5 ahead of 8", Edges::bare, x -> x.voteBy(law), 5);
        }
    }

    /** 2; 9: LAW 2. */
    private static void swayRefused() {
        for (int v : new int[] {LEAST, LEAST + 1, -2, -1, 3, 4, 5, 6, 7, 256, MOST - 1, MOST}) {
            Edges.refused("sway(" + v + ")", Edges::rich, x -> x.sway(v), 2);
            Edges.refused("sway(" + v + ") by LAW 2: 2 ahead of 9", () -> Kit.of(TextsTest.TOWN + "law 2;"), x -> x.sway(v), 2);
        }
        Edges.refused("sway(6) of six", Edges::full, x -> x.sway(6), 2);
        for (int v = 0; v < 6; v++) {
            int voter = v;
            Edges.refused("sway(" + v + ") by LAW 2", Edges::full, x -> x.sway(voter), 9);
        }
        Edges.refused("sway(0) of none", Edges::bare, x -> x.sway(0), 2);
    }

    private static void asksChangeNothing() {
        Edges.asks("vote()", Edges::rich, Unmade::vote, 0);
        for (int law = 0; law <= 2; law++) {
            int by = law;
            // by LAW 0 nail has ann's and bob's, boat cid's; by LAW 1 nail has 8, boat 7; by LAW 2 boat is out
            Edges.asks("voteBy(" + law + ")", Edges::rich, x -> x.voteBy(by), 0);
        }
        int[] votes = {8, 0, 0, 0, 0, 7, 0, 0};
        for (int t = 0; t < 8; t++) {
            int thing = t;
            Edges.asks("votes(" + t + ")", Edges::rich, x -> x.votes(thing), votes[t]);
        }
        // without ann nail has 5, boat 7: by nine of hers all that is open but oil and song, lamp and cart, too
        Edges.asks("sway(0)", Edges::rich, x -> x.sway(0), 1 | 4 | 32 | 128);
        // d to i have one each; whoever is out, the last, gives his to one ahead, or to l, k, j, that are out next
        Edges.asks("vote() of all", Edges::full, Unmade::vote, 0);
    }

    // ---- the terms

    /** That with the most VOTES, of several the first. */
    private static void theMostOfSeveralTheFirst() {
        for (int law = 0; law <= 1; law++) {
            for (int a = 0; a < 6; a++) {
                for (int b = a; b < 6; b++) {
                    char first = (char) ('a' + a);
                    char second = (char) ('a' + b);
                    Kit k = hating("a b c d e f", law, second + "5", first + "5");
                    k.fine("of two the first", k.it.vote(), a);
                    Kit more = hating("a b c d e f", law, second + "5", first + "5", second + "1");
                    more.fine("one more", more.it.vote(), b);
                }
            }
        }
    }

    /** Each VOTER gives a VOTE to what he hates the most (above 0; of several the first). */
    private static void lawZero() {
        Kit k = hating("a b c d!", 0, "b1", "b1 c1", "c2 b1", "d9 c1", "", "a0 d9");
        int[] due = {0, 2, 2, 0};
        for (int t = 0; t < 4; t++) {
            k.fine("votes(" + t + ")", k.it.votes(t), due[t]);
        }
        k.fine("as many: the first", k.it.vote(), 1);
        k.fine("d takes part", k.it.exempt(3, false));
        int[] then = {0, 2, 1, 2};
        for (int t = 0; t < 4; t++) {
            k.fine("votes(" + t + ") then", k.it.votes(t), then[t]);
        }
        k.fine("b again", k.it.vote(), 1);
        k.it.unmake(1);
        int[] without = {0, 0, 2, 2};
        for (int t = 0; t < 4; t++) {
            k.fine("votes(" + t + ") without b", k.it.votes(t), without[t]);
        }
        k.fine("c", k.it.vote(), 2);
        Kit six = hating("a b", 0, "b9", "b9", "b9", "b9", "b9", "b1");
        six.fine("as many as voters", six.it.votes(1), 6);
        six.fine("none", six.it.votes(0), 0);
    }

    /** As many VOTES as he hates it. */
    private static void lawOne() {
        Kit k = hating("a b c!", 1, "a9 b9 c9", "a9 b9 c9", "a9 b9 c9", "a9 b9", "a9 b9", "a8 b9");
        k.fine("53", k.it.votes(0), 53);
        k.fine("54, the most there can be", k.it.votes(1), 54);
        k.fine("exempt", k.it.votes(2), 0);
        k.fine("by one", k.it.vote(), 1);
        k.it.grudge(5, 0, 9);
        k.fine("as many: the first", k.it.vote(), 0);
        k.it.unmake(0);
        k.fine("unmade", k.it.votes(0), 0);
        k.fine("the other", k.it.vote(), 1);
        k.fine("54 still", k.it.votes(1), 54);
    }

    /** The one with the fewest of those that have VOTES (of several the last) is out. */
    private static void lawTwoFewestOfSeveralTheLast() {
        // a, b, c one each: c is out, then b
        Kit k = hating("a b c", 2, "a9", "b9", "c9");
        k.fine("the first is left", k.it.vote(), 0);
        // c is out first, and its voter's next is b
        Kit next = hating("a b c", 2, "a9", "b9", "c9 b1");
        next.fine("b by the voter of c", next.it.vote(), 1);
        next.fine("a was in two rounds", next.it.votes(0), 1);
        next.fine("b was in the last", next.it.votes(1), 2);
        next.fine("c was in the first", next.it.votes(2), 1);
        // what has no VOTES is not out, and may get some
        Kit none = hating("a b c d", 2, "a9", "a9", "c9 b1", "d9 b2");
        // d out (the last of c, d): b has 1, c 1, a 2: c out: b 2, a 2: b out
        none.fine("a at the end", none.it.vote(), 0);
        none.fine("b that had none", none.it.votes(1), 2);
        none.fine("c in the second", none.it.votes(2), 1);
        none.fine("d in the first", none.it.votes(3), 1);
        // fewest ahead of last
        Kit fewest = hating("a b c", 2, "a9 c1", "b9", "b9", "c9", "c9");
        fewest.fine("a is out, then b", fewest.it.vote(), 2);
        fewest.fine("a had one", fewest.it.votes(0), 1);
        fewest.fine("b had two", fewest.it.votes(1), 2);
        fewest.fine("c had three", fewest.it.votes(2), 3);
    }

    /** Till just one that has VOTES is left; votes() are those of the last round that it is in. */
    private static void lawTwoLastRound() {
        Kit one = hating("a b c", 2, "b9", "b9 a1", "b1");
        one.fine("one from the first", one.it.vote(), 1);
        one.fine("all its votes", one.it.votes(1), 3);
        one.fine("none", one.it.votes(0), 0);
        Kit lost = hating("a b", 2, "a9", "a9", "b9");
        lost.fine("a", lost.it.vote(), 0);
        lost.fine("whose voter hates nothing else", lost.it.votes(0), 2);
        lost.fine("b", lost.it.votes(1), 1);
        Kit twelve = hating("a b c d e f g h i j k l", 2, "l9 a1", "k9 a1", "j9 a1", "i9 a1", "h9 a1", "g9 a1");
        // l is out, a has one; k, j, i, h are out in turn; then a has five, g one
        twelve.fine("a of twelve", twelve.it.vote(), 0);
        int[] votes = {6, 0, 0, 0, 0, 0, 1, 1, 1, 1, 1, 1};
        for (int t = 0; t < 12; t++) {
            twelve.fine("votes(" + t + ")", twelve.it.votes(t), votes[t]);
        }
        Kit exempt = hating("a b! c", 2, "b9 a1", "b9 c2", "b9 c2");
        exempt.fine("an exempt one has no part", exempt.it.vote(), 2);
        exempt.fine("no votes", exempt.it.votes(1), 0);
    }

    /** What a VOTER alone could have named, by one VOTE. */
    private static void swayByLawZero() {
        Kit alone = hating("a b! c d", 0, "");
        alone.it.unmake(3);
        alone.fine("all that has a part", alone.it.sway(0), 5);
        Kit two = hating("a b c", 0, "b9", "a9");
        two.fine("he can make as many, the first", two.it.sway(0), 1);
        two.fine("the other makes one of his the first, or gives it to b", two.it.sway(1), 3);
        Kit lead = hating("a b c", 0, "b9", "b9", "b9", "a1");
        lead.fine("of three and one", lead.it.sway(3), 2);
        lead.fine("of two and one", lead.it.sway(0), 3);
        Kit none = hating("a! b!", 0, "a9");
        none.fine("nothing has a part", none.it.sway(0), 0);
        Kit bare = Kit.of("voter v;");
        bare.fine("no THINGS", bare.it.sway(0), 0);
        Kit full = hating("a b c d e f g h i j k l", 0, "", "", "", "", "", "");
        full.fine("any of twelve", full.it.sway(5), 4095);
    }

    /** Each 0 to 9: as many and first is enough, one less is not. */
    private static void swayByLawOne() {
        for (int lead = 0; lead <= 18; lead++) {
            String[] grudges = {"b" + Math.min(lead, 9), "b" + Math.max(0, lead - 9), "b5 a2"};
            Kit k = hating("a b c", 1, grudges);
            int due = lead < 9 ? 7 : lead == 9 ? 3 : 2;
            k.fine("against " + lead, k.it.sway(2), due);
        }
        Kit none = hating("a! b!", 1, "a9");
        none.fine("nothing has a part", none.it.sway(0), 0);
        Kit bare = Kit.of("voter v;law 1;");
        bare.fine("no THINGS", bare.it.sway(0), 0);
        Kit spared = hating("a b! c", 1, "b9", "b9", "");
        spared.fine("what is exempt counts not", spared.it.sway(2), 5);
        Kit own = hating("a b", 1, "b9");
        own.fine("his own numbers count not", own.it.sway(0), 3);
        for (int t = 0; t < 4; t++) {
            // eleven by others: none but it, whichever it is; ten: the first of it and those as many
            char c = (char) ('a' + t);
            Kit far = hating("a b c d", 1, c + "9", c + "2", c + "9");
            far.fine("against eleven", far.it.sway(2), 1 << t);
            far.fine("by nine of eleven with his own nine", far.it.sway(0), 1 << t);
            far.it.grudge(2, t, 0);
            far.fine("against two", far.it.sway(0), 15);
            far.fine("against nine", far.it.sway(1), (2 << t) - 1);
        }
        Kit full = hating("a b c d e f g h i j k l", 1, "l9", "", "", "", "", "");
        full.fine("nine and as many: all ahead of it", full.it.sway(5), 4095);
        full.it.grudge(1, 11, 1);
        full.fine("ten", full.it.sway(5), 2048);
    }
}
