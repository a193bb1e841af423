import java.nio.charset.StandardCharsets;

/** Promises 9 to 12: the tape, how many of its bytes are taken, the fault that is told; each edge that they name. */
final class EdgesTapeTest {
    private static final int LEAST = Edges.LEAST;
    private static final int MOST = Edges.MOST;
    private static final int BLANKS = 0x20202020;

    public static void main(String[] args) {
        fedUpToNineHundred();
        highestByteFirst();
        behindThoseOnTheTape();
        cityOfSoManyBytes();
        cityIsOnTheTapeAlone();
        cityFullTape();
        centuriesOfSoManyBytes();
        centuriesUpToThreeHundred();
        refusedTextsChangeNothingElse();
        cityTakenInPlaceOfThatAhead();
        citiesOneAfterAnother();
        foundInAnotherCity();
        centuriesTakenInPlaceOfThoseAhead();
        faultOfWhat();
        faultOfTheLatestWithNothingOrTen();
        Kit.end("EdgesTapeTest");
    }

    private static int blanks(Kit k) {
        return k.it.feed(BLANKS, BLANKS, BLANKS, BLANKS, BLANKS);
    }

    // ---- 9: feed

    /** How many it has; NONE if there would be more than 900. */
    private static void fedUpToNineHundred() {
        Kit k = new Kit();
        for (int n = 1; n <= 45; n++) {
            Kit.due("feed " + n, blanks(k), 20 * n);
        }
        for (int n = 0; n < 3; n++) {
            Kit.due("feed beyond 900", k.it.feed(0x61616161, 0, 0, 0, 0), Unmade.NONE);
        }
        Kit.due("it has no STATUS", k.it.status(), 0);
        k.refused("the tape has no more", k.it.city(901), 5);
        k.fine("the tape is as it was", k.it.city(900), 0);
        Kit.due("and can be fed again", blanks(k), 20);
        Kit faulty = Edges.full();
        Kit.due("full", blanks(faulty), Unmade.NONE);
        // law 0 told 45 times: the second at byte 20
        faulty.refused("a fault empties it, too", faulty.it.city(900), 10);
        Kit.due("the fault", faulty.it.fault(0), 5);
        Kit.due("its place", faulty.it.fault(1), 20);
        Kit.due("and it can be fed", blanks(faulty), 20);
        Edges.alike("behind a refused feed", () -> {
            Kit one = Edges.full();
            Kit.due("refused", one.it.feed(0x78787878, 0, 0, 0, 0), Unmade.NONE);
            return one;
        }, Edges::full);
        Kit bound = Edges.full();
        bound.refused("5 does not empty it", bound.it.city(901), 5);
        bound.refused("5 does not empty it", bound.it.centuries(301), 5);
        Kit.due("so it is full still", blanks(bound), Unmade.NONE);
    }

    /** Twenty bytes, the highest of each int first. */
    private static void highestByteFirst() {
        String text = "law 2;voter aqzpoxg;";
        Kit k = new Kit();
        Kit.due("twenty", k.feed(text), 20);
        k.fine("taken", k.it.city(20), 0);
        k.fine("its law", k.it.many(4), 2);
        k.fine("its voter", k.it.many(3), 1);
        byte[] bytes = text.getBytes(StandardCharsets.ISO_8859_1);
        for (int i = 0; i < 20; i++) {
            // each byte alone, all the others blank: it is found at its place
            int[] ints = {BLANKS, BLANKS, BLANKS, BLANKS, BLANKS};
            int shift = 24 - 8 * (i % 4);
            ints[i / 4] = ints[i / 4] & ~(255 << shift) | 0xff << shift;
            Kit one = new Kit();
            one.it.feed(ints[0], ints[1], ints[2], ints[3], ints[4]);
            one.refused("a byte of 255", one.it.city(20), 10);
            Kit.due("its fault", one.it.fault(0), 1);
            Kit.due("its place", one.it.fault(1), i);
            Kit cut = new Kit();
            cut.it.feed(ints[0], ints[1], ints[2], ints[3], ints[4]);
            cut.fine("up to it", cut.it.city(i), 0);
            Kit.due("a byte of the text", bytes[i] > 0 ? 1 : 0, 1);
        }
        Kit ends = new Kit();
        ends.it.feed(LEAST, MOST, -1, 0, 1);
        ends.refused("of any ints", ends.it.city(20), 10);
        Kit.due("at the first", ends.it.fault(1), 0);
    }

    /** They come behind those on the tape. */
    private static void behindThoseOnTheTape() {
        Kit k = new Kit();
        Kit.due("first", k.feed("thing ab worth 7 exe"), 20);
        Kit.due("second", k.feed("mpt;thing c worth 9;"), 20);
        k.fine("a word over two feeds", k.it.city(40), 2);
        k.fine("exempt", k.it.many(9), 1);
        k.fine("worth", k.it.many(11), 16);
    }

    // ---- 10: city(n)

    /** The first n bytes of the tape (5: fewer than 0, more than it has). */
    private static void cityOfSoManyBytes() {
        for (int n : new int[] {LEAST, LEAST + 1, -2, -1, 41, 42, 60, 900, 901, MOST - 1, MOST}) {
            Edges.refused("city(" + n + ") of 40 bytes", Edges::rich, x -> x.city(n), 5);
        }
        for (int n : new int[] {LEAST, -1, 1, 20, 900, MOST}) {
            Edges.refused("city(" + n + ") of an empty tape", Edges::bare, x -> x.city(n), 5);
        }
        for (int n : new int[] {LEAST, -1, 901, MOST}) {
            Edges.refused("city(" + n + ") of a full tape", Edges::full, x -> x.city(n), 5);
        }
        Kit empty = new Kit();
        empty.fine("city(0) of an empty tape", empty.it.city(0), 0);
        Kit none = Edges.rich();
        none.fine("city(0) of a fed tape", none.it.city(0), 0);
        Kit.due("the rest is gone, too", blanks(none), 20);
    }

    /** What stands behind the first n is not read, and is not on the tape any more. */
    private static void cityIsOnTheTapeAlone() {
        String text = "thing a;thing b;Wrong";
        for (int n = 0; n <= text.length(); n++) {
            Kit k = new Kit();
            k.feed(text);
            int got = k.it.city(n);
            if (n == 0 || n == 8 || n == 16) {
                Kit.due("city(" + n + ")", got, n / 8);
                Kit.due("status of city(" + n + ")", k.it.status(), 0);
            } else {
                k.refused("city(" + n + ")", got, 10);
            }
            k.refused("nothing is left", k.it.city(1), 5);
            Kit.due("the tape is empty", blanks(k), 20);
        }
    }

    /** A TEXT of at most 900 bytes: up to its last one. */
    private static void cityFullTape() {
        String text = Edges.fullText();
        String filled = " ".repeat(900 - text.length()) + text;
        Kit k = new Kit();
        k.fine("900 bytes", k.city(filled), 12);
        k.fine("makings", k.it.many(1), 16);
        k.fine("works", k.it.many(2), 6);
        k.fine("voters", k.it.many(3), 6);
        k.fine("law", k.it.many(4), 2);
        Kit cut = new Kit();
        cut.feed(filled);
        cut.refused("899 bytes", cut.it.city(899), 10);
        Kit.due("the end", cut.it.fault(0), 2);
        Kit.due("the text's length", cut.it.fault(1), 899);
        Kit last = new Kit();
        last.refused("a fault in the last byte", last.city(filled.substring(0, 899) + "!"), 10);
        Kit.due("no token", last.it.fault(0), 1);
        Kit.due("its place", last.it.fault(1), 899);
    }

    // ---- 11: centuries(n)

    /** Likewise the CENTURIES (5). */
    private static void centuriesOfSoManyBytes() {
        for (int n : new int[] {LEAST, LEAST + 1, -2, -1, 41, 42, 60, 300, 301, 900, 901, MOST - 1, MOST}) {
            Edges.refused("centuries(" + n + ") of 40 bytes", Edges::rich, x -> x.centuries(n), 5);
        }
        for (int n : new int[] {LEAST, -1, 1, 20, 300, 301, MOST}) {
            Edges.refused("centuries(" + n + ") of an empty tape", Edges::bare, x -> x.centuries(n), 5);
        }
        for (int n : new int[] {LEAST, -1, 301, 302, 900, 901, MOST}) {
            Edges.refused("centuries(" + n + ") of a full tape", Edges::full, x -> x.centuries(n), 5);
        }
        Kit empty = new Kit();
        empty.fine("centuries(0) of an empty tape", empty.it.centuries(0), 0);
        empty.fine("are lived", empty.it.live(0), 0);
        Kit none = Edges.rich();
        none.fine("centuries(0) of a fed tape", none.it.centuries(0), 0);
        Kit.due("the rest is gone, too", blanks(none), 20);
        String text = "joke;stop;Wrong";
        for (int n = 0; n <= text.length(); n++) {
            Kit k = new Kit();
            k.feed(text);
            int got = k.it.centuries(n);
            if (n == 0 || n == 5 || n == 10) {
                Kit.due("centuries(" + n + ")", got, n / 5);
                Kit.due("status of centuries(" + n + ")", k.it.status(), 0);
            } else {
                k.refused("centuries(" + n + ")", got, 10);
            }
            k.refused("nothing is left", k.it.centuries(1), 5);
            Kit.due("the tape is empty", blanks(k), 20);
        }
    }

    /** 5: above 300, too; the tape may have more. */
    private static void centuriesUpToThreeHundred() {
        String text = " ".repeat(295) + "joke;" + " ".repeat(600);
        Kit k = new Kit();
        k.feed(text);
        k.refused("301 of 900", k.it.centuries(301), 5);
        k.refused("900 of 900", k.it.centuries(900), 5);
        k.fine("300 of 900", k.it.centuries(300), 1);
        Kit cut = new Kit();
        cut.feed(text);
        cut.refused("299 of 900", cut.it.centuries(299), 10);
        Kit.due("the end", cut.it.fault(0), 2);
        Kit.due("the text's length", cut.it.fault(1), 299);
        Kit city = new Kit();
        city.feed(" ".repeat(301));
        city.fine("a city may have more", city.it.city(301), 0);
    }

    // ---- STATUS 10 and 0 of both

    /** With 10 the tape, and what fault() tells, are all that changes. */
    private static void refusedTextsChangeNothingElse() {
        Edges.Look[] tapeAndFault = {Edges.Look.TAPE, Edges.Look.CITY};
        for (String text : new String[] {"thing a;thing a;", "law 1;thing", "thing zz;work w needs zz;voter v;law 0;x", "12345"}) {
            Edges.beside("city with a fault", Edges::rich, x -> cityOn(x, text), -1, 10, tapeAndFault);
            Edges.beside("city with a fault", Edges::full, x -> cityOn(x, text), -1, 10, tapeAndFault);
        }
        for (String text : new String[] {"joke", "loop 3;", "year 1;unmake nobody;", "12345", "stop;end;"}) {
            Edges.beside("centuries with a fault", Edges::rich, x -> centuriesOn(x, text), -1, 10, tapeAndFault);
            Edges.beside("centuries with a fault", Edges::full, x -> centuriesOn(x, text), -1, 10, tapeAndFault);
        }
        // the city itself, where both have the same fault and an empty tape
        Edges.alike("behind unlike faults", () -> {
            Kit k = Edges.rich();
            cityOn(k.it, "thing q worth 9 exempt;makes q from q;");
            cityOn(k.it, "law 3;");
            return k;
        }, () -> {
            Kit k = Edges.rich();
            cityOn(k.it, "law 3;");
            return k;
        });
        Edges.alike("behind unlike faults of centuries", () -> {
            Kit k = Edges.rich();
            centuriesOn(k.it, "year 9;loop 9;stop;");
            centuriesOn(k.it, "year 0;");
            return k;
        }, () -> {
            Kit k = Edges.rich();
            centuriesOn(k.it, "year 0;");
            return k;
        });
    }

    private static int cityOn(Unmade x, String text) {
        Kit k = new Kit();
        k.it = x;
        emptied(k);
        return k.city(text);
    }

    private static int centuriesOn(Unmade x, String text) {
        Kit k = new Kit();
        k.it = x;
        emptied(k);
        return k.centuries(text);
    }

    /** Takes a text with a fault, so that the tape is empty. */
    private static void emptied(Kit k) {
        k.feed("!");
        k.it.centuries(1);
    }

    /** It is YEAR 0, nothing is UNMADE, there are no CENTURIES; MARKS, TRAYS and the like stay. */
    private static void cityTakenInPlaceOfThatAhead() {
        for (int which = 0; which < 2; which++) {
            boolean wide = which == 0;
            String text = "thing nail worth 5;thing lamp exempt;makes lamp from nail;work cross needs lamp;voter ann;hates ann nail 2;";
            Kit old = wide ? Edges.full() : Edges.rich();
            emptied(old);
            old.fine("taken", old.city(text), 2);
            old.fine("YEAR 0", old.it.many(5), 0);
            old.fine("nothing is UNMADE", old.it.many(7), 0);
            old.refused("no CENTURIES", old.it.live(0), 8);
            old.refused("no CENTURIES", old.it.mean(0, 1), 8);
            Edges.Look[] kept = {Edges.Look.FRACTION, Edges.Look.LIST, Edges.Look.LIVED, Edges.Look.TRAYS, Edges.Look.MARKS,
                Edges.Look.STORY};
            Edges.alike("of a city taken anew", () -> {
                Kit k = wide ? Edges.full() : Edges.rich();
                emptied(k);
                k.city(text);
                return k;
            }, () -> Kit.of(text), kept);
            Edges.Look[] own = {Edges.Look.CITY, Edges.Look.VOTES, Edges.Look.STORY, Edges.Look.TAPE};
            Edges.alike("besides the city", () -> {
                Kit k = wide ? Edges.full() : Edges.rich();
                emptied(k);
                k.city(text);
                return k;
            }, () -> {
                Kit k = wide ? Edges.full() : Edges.rich();
                emptied(k);
                return k;
            }, own);
        }
    }

    /** Nothing of a city is left in those behind it, however many there are, and however many had a fault. */
    private static void citiesOneAfterAnother() {
        String small = "thing a;thing b;voter u;work w needs a;makes b from a;";
        Edges.Look[] kept = {Edges.Look.MARKS};
        for (int order = 0; order < 64; order++) {
            int bits = order;
            Edges.alike("of the last of six, by order " + order, () -> {
                Kit k = new Kit();
                for (int n = 0; n < 6; n++) {
                    boolean large = (bits >> n & 1) != 0;
                    k.city(large ? Edges.fullText() + (n % 2 == 0 ? "ahead b a;ahead l b;" : "law 1;") : "law 2;thing l exempt;voter u;hates u l 9;");
                    k.it.unmake(0);
                    k.it.later(3);
                    k.it.vote();
                    k.it.year(2);
                    k.centuries("joke;");
                }
                k.city(small);
                return k;
            }, () -> Kit.of(small), kept);
        }
    }

    /** What was found of what will be in one city is not told of another with as many things, nor behind back(). */
    private static void foundInAnotherCity() {
        String two = "thing a;thing b;voter v;work w needs a;work x needs b;hates v ";
        Kit k = Kit.of(two + "a 9;");
        k.fine("a is named", k.it.later(1), 2);
        k.fine("w ends", k.it.ends(0), 1);
        k.fine("mark()", k.it.mark(), 1);
        k.fine("another city", k.city(two + "b 9;makes b from a;"), 2);
        k.fine("b is named", k.it.later(1), 1);
        k.fine("b falls with a", k.it.falls(0), 3);
        k.fine("x ends", k.it.ends(1), 1);
        k.fine("back()", k.it.back(), 0);
        k.fine("a is named", k.it.later(1), 2);
        k.fine("a falls alone", k.it.falls(0), 1);
        k.fine("mark()", k.it.mark(), 1);
        k.fine("he hates a no more", k.it.grudge(0, 0, 0));
        k.fine("now none is named", k.it.later(1), 3);
        k.fine("he hates b", k.it.grudge(0, 1, 1));
        k.fine("b is named", k.it.later(1), 1);
        k.fine("back()", k.it.back(), 0);
        k.fine("a is named", k.it.later(1), 2);
        k.fine("no more than a", k.it.later(2), 2);
    }

    /** How many STEPS; the CENTURIES told ahead are gone, the city stays. */
    private static void centuriesTakenInPlaceOfThoseAhead() {
        Kit k = Edges.rich();
        emptied(k);
        k.fine("one step", k.centuries("stop;"), 1);
        k.fine("lived", k.it.live(0), 1);
        k.fine("no step", k.centuries(" "), 0);
        k.fine("lived", k.it.live(0), 0);
        k.fine("the city stays", k.it.many(0), 8);
        k.fine("and what is unmade", k.it.many(7), 2);
        Edges.alike("besides the centuries", () -> {
            Kit one = Edges.rich();
            emptied(one);
            one.centuries("stop;");
            return one;
        }, () -> {
            Kit one = Edges.rich();
            emptied(one);
            one.centuries("joke;");
            return one;
        }, Edges.Look.STORY, Edges.Look.TAPE);
    }

    // ---- 12: fault

    /** What 0: the FAULT, 1: its place; NONE for others, and ahead of any. */
    private static void faultOfWhat() {
        for (int what : new int[] {LEAST, -2, -1, 0, 1, 2, 3, MOST}) {
            Kit.due("fault(" + what + ") ahead of any", new Kit().it.fault(what), Unmade.NONE);
        }
        Kit none = new Kit();
        none.refused("5 is not told", none.it.city(1), 5);
        none.refused("5 is not told", none.it.centuries(301), 5);
        Kit.due("fault(0) ahead of any but with 5", none.it.fault(0), Unmade.NONE);
        Kit.due("fault(1) ahead of any but with 5", none.it.fault(1), Unmade.NONE);
        Kit k = new Kit();
        k.city("law 9;");
        Kit.due("fault(0)", k.it.fault(0), 4);
        Kit.due("fault(1)", k.it.fault(1), 4);
        for (int what : new int[] {LEAST, -2, -1, 2, 3, 4, MOST}) {
            Kit.due("fault(" + what + ")", k.it.fault(what), Unmade.NONE);
        }
        k.it.city(0);
        Kit.due("0 without one", k.it.fault(0), 0);
        for (int what : new int[] {LEAST, -1, 1, 2, MOST}) {
            Kit.due("fault(" + what + ") without one", k.it.fault(what), Unmade.NONE);
        }
    }

    private static void told(Kit k, int kind, int place) {
        Kit.due("fault(0)", k.it.fault(0), kind);
        Kit.due("fault(1)", k.it.fault(1), place);
    }

    /** Of the latest of both with STATUS 0 or 10, whatever came since. */
    private static void faultOfTheLatestWithNothingOrTen() {
        Kit k = new Kit();
        k.city("thing a;voter");
        told(k, 2, 13);
        k.it.city(1);
        told(k, 2, 13);
        k.centuries("loop 0;");
        told(k, 4, 5);
        k.it.centuries(-1);
        k.it.mark();
        k.it.back();
        k.it.live(0);
        told(k, 4, 5);
        k.city("thing b;");
        told(k, 0, Unmade.NONE);
        k.centuries("x");
        told(k, 2, 0);
        k.centuries("stop;");
        told(k, 0, Unmade.NONE);
        k.it.city(901);
        told(k, 0, Unmade.NONE);
        k.city("Q");
        told(k, 1, 0);
    }
}
