import java.util.HashMap;
import java.util.Map;

/** The terms of a CITY's text: tokens, parts, numbers, names and faults, each at its edges. */
final class EdgesCityTextTest {
    private static final String[] KEYWORDS = ("thing worth exempt makes from work needs voter hates ahead law year unmake"
        + " remake spare joke when stands done votes loop end stop").split(" ");

    public static void main(String[] args) {
        emptyTexts();
        eachByte();
        tokensAsLongAsTheyGo();
        numbersOfOneToFourDigits();
        namesOfOneToEightLetters();
        keywordsAreNoNames();
        oneNameOfOneThing();
        namedAhead();
        worth();
        exempt();
        makings();
        works();
        hatred();
        aheads();
        laws();
        asManyAsCanBe();
        oneTooManyAtItsWord();
        theFirstAlongTheText();
        theLeastKindOfOneToken();
        theEndIsTheTextsLength();
        eachTokenInEachPlace();
        Kit.end("EdgesCityTextTest");
    }

    private static Kit taken(String text, int things) {
        Kit k = new Kit();
        k.fine(text, k.city(text), things);
        Kit.due("no fault in " + text, k.it.fault(0), 0);
        Kit.due("no place in " + text, k.it.fault(1), Unmade.NONE);
        return k;
    }

    private static void fault(String text, int kind, int place) {
        Kit k = new Kit();
        k.refused(text, k.city(text), 10);
        Kit.due("fault of " + text, k.it.fault(0), kind);
        Kit.due("place of " + text, k.it.fault(1), place);
        for (int what = 0; what < 12; what++) {
            k.fine("many(" + what + "), nothing taken of " + text, k.it.many(what), 0);
        }
    }

    /** {PART}, any number of times: none, too. */
    private static void emptyTexts() {
        taken("", 0);
        taken(" ", 0);
        taken("\n", 0);
        taken(" \n \n\n  ", 0);
        taken(" ".repeat(900), 0);
        taken("\n".repeat(900), 0);
        fault(";", 2, 0);
        fault(" ".repeat(899) + ";", 2, 899);
    }

    /** Blanks are 10 and 32; small letters, digits, and ; < > = begin tokens; no TOKEN begins with another byte. */
    private static void eachByte() {
        for (int b = 0; b < 256; b++) {
            String sign = String.valueOf((char) b);
            String text = "thing a" + sign + ";";
            if (b == 10 || b == 32 || b >= 'a' && b <= 'z') {
                taken(text, 1);
            } else if (b == ';') {
                fault(text, 2, 8);
            } else if (b >= '0' && b <= '9' || b == '<' || b == '>' || b == '=') {
                fault(text, 2, 7);
            } else {
                fault(text, 1, 7);
            }
            String first = sign + "thing a;";
            if (b == 10 || b == 32) {
                taken(first, 1);
            } else if (b >= 'a' && b <= 'z' || b >= '0' && b <= '9' || ";<>=".indexOf(b) >= 0) {
                fault(first, 2, 0);
            } else {
                fault(first, 1, 0);
            }
            String last = "thing a;" + sign;
            if (b == 10 || b == 32) {
                taken(last, 1);
            } else if (b >= 'a' && b <= 'z' || b >= '0' && b <= '9' || ";<>=".indexOf(b) >= 0) {
                fault(last, 2, 8);
            } else {
                fault(last, 1, 8);
            }
        }
    }

    /** TOKENS go as long as they go, between them blanks, or none where they end of themselves. */
    private static void tokensAsLongAsTheyGo() {
        fault("thingnail;", 2, 0);
        fault("thin g a;", 2, 0);
        fault("thing a b;", 2, 8);
        fault("thing a worth 1 2;", 2, 16);
        fault("thing a worthexempt;", 2, 8);
        taken("thing a worth12exempt;thing b;", 2);
        taken("thing\n\n a\nworth\n12 exempt\n;", 1);
        taken("thing a;thing b;makes a from b\n;", 2);
        fault("thing a1;", 2, 7);
        fault("thing 1a;", 2, 6);
        Kit k = taken("thing a worth 12;thing b worth 1 ;", 2);
        k.fine("12 is one number", k.it.thing(0, 0), 12);
        k.fine("1", k.it.thing(1, 0), 1);
    }

    /** 1 no TOKEN begins so (a NUMBER of 5 digits and more: at its first). */
    private static void numbersOfOneToFourDigits() {
        for (String number : new String[] {"7", "07", "007", "0007"}) {
            Kit k = taken("thing a worth " + number + ";", 1);
            k.fine("worth " + number, k.it.thing(0, 0), 7);
        }
        for (String number : new String[] {"00007", "000000", "12345", "99999", "4294967297", "4294967296", "18446744073709551617",
            "2147483648", "65537", "10000", "0".repeat(500), "9".repeat(500)}) {
            fault("thing a worth " + number + ";", 1, 14);
            fault("thing " + number + ";", 1, 6);
            fault(number, 1, 0);
            fault("law " + number, 1, 4);
        }
        fault("thing a worth 12345a;", 1, 14);
        fault("thing a worth 1234a;", 4, 14);
        fault("thing a worth 99a;", 2, 16);
    }

    /** A WORD of 1 to 8 letters; one of 9 letters and more where a NAME must stand: 2. */
    private static void namesOfOneToEightLetters() {
        for (int length = 1; length <= 8; length++) {
            String name = "q".repeat(length);
            Kit k = taken("thing " + name + ";voter v;hates v " + name + " 4;", 1);
            k.fine("hated", k.it.hate(0, 0), 4);
        }
        for (int length : new int[] {9, 10, 11, 12, 13, 14, 16, 17, 32, 64, 65, 128, 256, 800}) {
            String name = "q".repeat(length);
            fault("thing " + name + ";", 2, 6);
            fault("thing q;voter " + name + ";", 2, 14);
            fault("thing q;work " + name + " needs q;", 2, 13);
            fault("thing q;voter v;hates " + name + " q 1;", 2, 22);
            fault("thing q;makes " + name + " from q;", 2, 14);
            fault("thing q;ahead q " + name + ";", 2, 16);
            fault("thing q;work w needs " + name + ";", 2, 21);
            fault(name + " q;", 2, 0);
        }
        // names that begin alike, and letters at both ends
        Kit k = taken("thing abcdefgh;thing abcdefg;thing bcdefgh;thing abcdefgi;thing a;thing z;thing zzzzzzzz;thing aa;work w needs bcdefgh;", 8);
        k.fine("each is its own", k.it.needs(0), 4);
        for (char c = 'a'; c <= 'z'; c++) {
            Kit one = taken("thing " + c + ";thing x" + c + ";work w" + c + " needs x" + c + ";", 2);
            one.fine("the second", one.it.needs(0), 2);
        }
    }

    /** None of thing, worth, .. stop, wherever a NAME must stand. */
    private static void keywordsAreNoNames() {
        for (String word : KEYWORDS) {
            fault("thing " + word + ";", 2, 6);
            fault("voter " + word + ";", 2, 6);
            fault("thing a;work " + word + " needs a;", 2, 13);
            fault("thing a;makes " + word + " from a;", 2, 14);
            fault("thing a;thing b;makes a from " + word + ";", 2, 29);
            fault("thing a;thing b;makes a from b " + word + ";", 2, 31);
            fault("thing a;work w needs " + word + ";", 2, 21);
            fault("thing a;voter v;hates " + word + " a 1;", 2, 22);
            fault("thing a;voter v;hates v " + word + " 1;", 2, 24);
            fault("thing a;ahead " + word + " a;", 2, 14);
            fault("thing a;ahead a " + word + ";", 2, 16);
            taken("thing " + word.substring(0, word.length() - 1) + ";", 1);
            taken("voter x" + word.substring(1) + ";", 0);
            if (word.length() < 8) {
                taken("thing " + word + "x;", 1);
            }
        }
        for (String part : new String[] {"worth", "exempt", "from", "needs", "year", "unmake", "remake", "spare", "joke", "when",
            "stands", "done", "votes", "loop", "end", "stop"}) {
            fault(part + " a;", 2, 0);
            fault("thing a;" + part, 2, 8);
        }
    }

    /** 3 a new NAME that is taken: of a thing, a work, a voter alike. */
    private static void oneNameOfOneThing() {
        String[] parts = {"thing b", "work b needs a", "voter b"};
        int[] nameAt = {6, 5, 6};
        for (String first : parts) {
            for (int k = 0; k < 3; k++) {
                String text = "thing a;" + first + ";";
                fault(text + parts[k] + ";", 3, text.length() + nameAt[k]);
            }
            fault("thing a;" + first + ";thing a;", 3, 15 + first.length());
        }
        // taken by a part that could not be ended
        Kit k = new Kit();
        k.refused("not ended", k.city("thing a;thing b"), 10);
        k.fine("b is not taken then", k.city("thing b;"), 1);
        k.fine("nor by the city ahead", k.city("voter b;thing a;"), 1);
    }

    /** 3 a NAME that is no such one told ahead; what a PART names must be told ahead. */
    private static void namedAhead() {
        String all = "thing a;voter v;work w needs a;";
        int n = all.length();
        for (String name : new String[] {"v", "w", "z", "aa", "abcdefgh"}) {
            fault(all + "makes " + name + " from a;", 3, n + 6);
            fault(all + "makes a from " + name + ";", 3, n + 13);
            fault(all + "work x needs " + name + ";", 3, n + 13);
            fault(all + "work x needs a " + name + ";", 3, n + 15);
            fault(all + "ahead " + name + " a;", 3, n + 6);
            fault(all + "ahead a " + name + ";", 3, n + 8);
            fault(all + "hates v " + name + " 1;", 3, n + 8);
        }
        for (String name : new String[] {"a", "w", "z", "vv"}) {
            fault(all + "hates " + name + " a 1;", 3, n + 6);
        }
        fault("thing a;makes a from b;thing b;", 3, 21);
        fault("hates v a 1;thing a;voter v;", 3, 6);
        fault("work w needs w;", 3, 13);
        fault("work w needs a;thing a;", 3, 13);
        fault("voter v;hates v v 1;", 3, 16);
        Kit k = Kit.of("thing old;voter ann;");
        k.refused("of the city ahead", k.city("ahead old old;"), 10);
        Kit.due("not told", k.it.fault(0), 3);
    }

    /** WORTH (0 to 99; 1 without). */
    private static void worth() {
        for (int n = 0; n <= 99; n++) {
            Kit k = taken("thing a worth " + n + ";", 1);
            k.fine("worth", k.it.thing(0, 0), n);
        }
        for (int n : new int[] {100, 101, 127, 128, 255, 256, 999, 1000, 9999}) {
            fault("thing a worth " + n + ";", 4, 14);
        }
        fault("thing a worth 0100;", 4, 14);
        Kit k = taken("thing a worth 0;thing b;thing c worth 0099;thing d exempt;", 4);
        int[] due = {0, 1, 99, 1};
        for (int t = 0; t < 4; t++) {
            k.fine("worth of " + t, k.it.thing(t, 0), due[t]);
        }
        // what was told ahead of it is not left behind
        k.fine("taken anew", k.city("thing c;thing b;thing a;"), 3);
        for (int t = 0; t < 3; t++) {
            k.fine("1 without", k.it.thing(t, 0), 1);
        }
        fault("thing a worth;", 2, 13);
        fault("thing a worth exempt;", 2, 14);
        fault("thing a worth <;", 2, 14);
        fault("thing a 5;", 2, 8);
        fault("thing worth 5;", 2, 6);
        fault("thing a worth 5 worth 5;", 2, 16);
    }

    /** EXEMPT or not, behind the WORTH. */
    private static void exempt() {
        Kit k = taken("thing a exempt;thing b;thing c worth 4 exempt;thing d worth 4;", 4);
        k.fine("exempt", k.it.many(9), 5);
        fault("thing a exempt worth 4;", 2, 15);
        fault("thing a exempt exempt;", 2, 15);
        fault("thing exempt;", 2, 6);
        k.fine("taken anew", k.city("thing a;thing b;"), 2);
        k.fine("none is exempt", k.it.many(9), 0);
        Kit all = taken(EdgesCityTextTest.things(12, " exempt"), 12);
        all.fine("all are exempt", all.it.many(9), 4095);
    }

    private static String things(int many, String behind) {
        StringBuilder b = new StringBuilder();
        for (int t = 0; t < many; t++) {
            b.append("thing ").append((char) ('a' + t)).append(behind).append(';');
        }
        return b.toString();
    }

    private static String times(String part, int many) {
        return part.repeat(many);
    }

    /** A THING from a set of others: one of them told twice is nothing more; 5 from itself, at that NAME. */
    private static void makings() {
        Kit k = taken(things(12, "") + "makes a from b c d e f g h i j k l;makes b from l l l l;makes c from d;makes c from d;", 12);
        k.fine("four makings", k.it.many(1), 4);
        k.fine("from all the others", k.it.making(0, 1), 4094);
        k.fine("told again, nothing more", k.it.making(1, 1), 2048);
        k.fine("the same twice are two", k.it.thing(2, 2), 12);
        fault("thing a;thing b;makes a from a;", 5, 29);
        fault("thing a;thing b;makes a from b a;", 5, 31);
        fault("thing a;thing b;makes a from b b a b;", 5, 33);
        fault("thing a;thing b;makes a from a x;", 5, 29);
        fault("thing a;thing b;makes a from x a;", 3, 29);
        fault("thing a;thing b;makes a from;", 2, 28);
        fault("thing a;thing b;makes a b;", 2, 24);
        fault("thing a;thing b;makes from b;", 2, 22);
        fault("thing a;thing b;makes a from b from a;", 2, 31);
        fault("thing a;thing b;makes a from b <;", 2, 31);
        fault("thing a;thing b;makes a from b 1;", 2, 31);
        taken("thing a;thing b;makes a from b;makes b from a;", 2);
        taken("thing a;thing b;makes a from " + "b ".repeat(400) + ";", 2);
    }

    /** Each needs a set of THINGS, one at least. */
    private static void works() {
        Kit k = taken(things(12, "") + "work w needs a b c d e f g h i j k l;work x needs l;work y needs c c c;", 12);
        k.fine("all", k.it.needs(0), 4095);
        k.fine("the last", k.it.needs(1), 2048);
        k.fine("told again", k.it.needs(2), 4);
        fault("thing a;work w needs;", 2, 20);
        fault("thing a;work w;", 2, 14);
        fault("thing a;work needs a;", 2, 13);
        fault("thing a;work w a;", 2, 15);
        fault("thing a;work w from a;", 2, 15);
        fault("thing a;work w needs 1;", 2, 21);
    }

    /** Each hates a THING by so much (0 to 9; told again: the latest; 0 without). */
    private static void hatred() {
        for (int n = 0; n <= 9; n++) {
            Kit k = taken("thing a;voter v;hates v a " + n + ";", 1);
            k.fine("hates by " + n, k.it.hate(0, 0), n);
        }
        for (int n : new int[] {10, 11, 90, 99, 100, 256, 999, 1000, 9999}) {
            fault("thing a;voter v;hates v a " + n + ";", 4, 26);
        }
        Kit k = taken("thing a;thing b;voter v;voter u;hates v a 0009;hates u b 1;hates v a 5;hates v a 3;hates u b 9;hates u b 0;", 2);
        int[] due = {3, 0, 0, 0};
        for (int i = 0; i < 4; i++) {
            k.fine("hate " + i, k.it.hate(i / 2, i % 2), due[i]);
        }
        k.fine("taken anew", k.city("thing a;voter v;"), 1);
        k.fine("0 without", k.it.hate(0, 0), 0);
        fault("thing a;voter v;hates v a;", 2, 25);
        fault("thing a;voter v;hates v;", 2, 23);
        fault("thing a;voter v;hates;", 2, 21);
        fault("thing a;voter v;hates v 5;", 2, 24);
        fault("thing a;voter v;hates v a b;", 2, 26);
        fault("thing a;voter v;hates v a 5 6;", 2, 28);
    }

    /** The first THING was made ahead of the second (told again: nothing more); 5 of itself, at that NAME. */
    private static void aheads() {
        Kit k = taken("thing a;thing b;thing c;ahead a b;ahead a b;ahead c b;ahead b a;", 3);
        int[] due = {2, 5, 0};
        for (int t = 0; t < 3; t++) {
            k.fine("ahead of " + t, k.it.thing(t, 3), due[t]);
        }
        k.fine("one of two is untrue, and told twice it counts once", k.it.clash(), 1);
        k.fine("taken anew", k.city("thing a;thing b;"), 2);
        k.fine("nothing is ahead", k.it.thing(0, 3) + k.it.thing(1, 3), 0);
        fault("thing a;ahead a a;", 5, 16);
        fault("thing a;ahead a a a;", 5, 16);
        fault("thing a;thing b;ahead a;", 2, 23);
        fault("thing a;thing b;ahead;", 2, 21);
        fault("thing a;thing b;ahead a 1;", 2, 24);
        fault("thing a;thing b;ahead a b a;", 2, 26);
        fault("thing a;thing b;ahead a < b;", 2, 24);
    }

    /** LAW (0 to 2; 0 without); told already: 5 at that WORD, whatever stands behind it. */
    private static void laws() {
        for (int law = 0; law <= 2; law++) {
            Kit k = taken("law " + law + ";", 0);
            k.fine("law " + law, k.it.many(4), law);
            k.fine("taken anew", k.city("thing a;"), 1);
            k.fine("0 without", k.it.many(4), 0);
        }
        for (int law : new int[] {3, 4, 9, 10, 99, 256, 9999}) {
            fault("law " + law + ";", 4, 4);
        }
        taken("law 0002;", 0);
        fault("law 0;law 0;", 5, 6);
        fault("law 2;thing a;law 1;", 5, 14);
        fault("law 2;law 3;", 5, 6);
        fault("law 2;law", 5, 6);
        fault("law 2;law law", 5, 6);
        fault("law;", 2, 3);
        fault("law a;", 2, 4);
        fault("law 1 1;", 2, 6);
        fault("law <", 2, 4);
        Kit again = new Kit();
        again.refused("law told in a text that is not taken", again.city("law 1;law 1;"), 10);
        again.fine("counts in no other", again.city("law 1;"), 0);
    }

    /** THINGS, at most 12; MAKINGS 16; WORKS 6; VOTERS 6; all are numbered as they stand. */
    private static void asManyAsCanBe() {
        for (int n = 0; n <= 12; n++) {
            Kit k = taken(things(n, " worth 9"), n);
            k.fine("things", k.it.many(0), n);
            k.fine("all stand", k.it.many(6), (1 << n) - 1);
            k.fine("worth", k.it.many(11), 9 * n);
        }
        for (int n = 0; n <= 16; n++) {
            StringBuilder b = new StringBuilder(things(3, ""));
            for (int m = 0; m < n; m++) {
                b.append("makes ").append(m % 2 == 0 ? "a from b;" : "c from a;");
            }
            Kit k = taken(b.toString(), 3);
            k.fine("makings", k.it.many(1), n);
            for (int m = 0; m < n; m++) {
                k.fine("of", k.it.making(m, 0), m % 2 == 0 ? 0 : 2);
                k.fine("from", k.it.making(m, 1), m % 2 == 0 ? 2 : 1);
            }
        }
        for (int n = 0; n <= 6; n++) {
            StringBuilder b = new StringBuilder(things(6, ""));
            for (int w = 0; w < n; w++) {
                b.append("work w").append((char) ('a' + w)).append(" needs ").append((char) ('f' - w)).append(';');
                b.append("voter v").append((char) ('a' + w)).append(";hates v").append((char) ('a' + w)).append(" b 3;");
            }
            Kit k = taken(b.toString(), 6);
            k.fine("works", k.it.many(2), n);
            k.fine("voters", k.it.many(3), n);
            k.fine("all can be done", k.it.many(10), (1 << n) - 1);
            for (int w = 0; w < n; w++) {
                k.fine("needs", k.it.needs(w), 32 >> w);
                k.fine("hates", k.it.hate(w, 1), 3);
            }
        }
        Kit k = taken(Edges.fullText(), 12);
        k.fine("greatest worth", k.it.thing(11, 0), 99);
        k.fine("a seventeenth is none", k.it.many(1), 16);
    }

    /** 6 a 13th thing, a 17th making, a seventh work, voter (at that WORD), whatever stands behind it. */
    private static void oneTooManyAtItsWord() {
        String makings = "thing a;thing b;" + times("makes a from b;", 16);
        String works = "thing a;work b needs a;work c needs a;work d needs a;work e needs a;work f needs a;work g needs a;";
        String voters = "voter a;voter b;voter c;voter d;voter e;voter f;";
        String[] full = {things(12, ""), makings, works, voters};
        String[] words = {"thing", "makes", "work", "voter"};
        String[] behind = {"", ";", " q;", " a;", " thing", " 1;", " q needs a;", " a from b;", " abcdefghi;", " a from a;", " !"};
        for (int k = 0; k < 4; k++) {
            for (String more : behind) {
                fault(full[k] + words[k] + more, 6, full[k].length());
                fault(full[k] + " \n" + words[k] + more, 6, full[k].length() + 2);
            }
            for (int other = 0; other < 4; other++) {
                // other parts may stand behind as many as can be
                if (other != k) {
                    String part = other == 0 ? "thing q;" : other == 1 ? "" : other == 2 ? "" : "voter q;";
                    new Kit().fine("others", Kit.of(full[k] + part).it.many(2), k == 2 ? 6 : 0);
                }
            }
            fault(full[k] + "q", 2, full[k].length());
        }
    }

    /** The first along the text counts. */
    private static void theFirstAlongTheText() {
        fault("thing a worth 100;thing a;", 4, 14);
        fault("thing a;thing a worth 100;", 3, 14);
        fault("law 3;!", 4, 4);
        fault("thing a;! law 3;", 1, 8);
        fault("thing a law 3;!", 2, 8);
        fault("thing a;ahead a a;law 9;", 5, 16);
        fault("thing a;ahead b a;ahead a a;", 3, 14);
    }

    /** Of one TOKEN the least kind: what begins no token is 1 wherever it stands. */
    private static void theLeastKindOfOneToken() {
        String twelve = things(12, "");
        for (String none : new String[] {"12345", "!", "T", "\t", String.valueOf((char) 0), String.valueOf((char) 255)}) {
            fault(none, 1, 0);
            fault("thing " + none, 1, 6);
            fault("thing a " + none, 1, 8);
            fault("thing a worth " + none, 1, 14);
            fault("thing a worth 1 " + none, 1, 16);
            fault("thing a;voter v;hates v a " + none, 1, 26);
            fault("thing a;makes a from " + none, 1, 21);
            fault("law " + none, 1, 4);
            fault("law 1;" + none, 1, 6);
            fault(twelve + none, 1, twelve.length());
            fault(twelve + "thing " + none, 6, twelve.length());
        }
        // a name that is taken, or is itself, of such a kind as can't stand there
        fault("thing a;voter v;ahead a v;", 3, 24);
        fault("thing a;work w needs a;makes a from w;", 3, 36);
    }

    /** The end: the text's length, behind blanks, too. */
    private static void theEndIsTheTextsLength() {
        String[] parts = {"thing a worth 5 exempt;", "thing a;thing b;makes a from b b;", "thing a;work w needs a a;", "voter v;",
            "thing a;voter v;hates v a 3;", "thing a;thing b;ahead a b;", "law 2;"};
        for (String part : parts) {
            for (int end = 0; end < part.length(); end++) {
                String text = part.substring(0, end);
                String cut = text.trim();
                if (cut.isEmpty() || cut.endsWith(";")) {
                    continue;
                }
                Map<String, Character> names = new HashMap<>();
                boolean broken = false;
                try {
                    new TextModel(text, names).city();
                } catch (TextModel.Fault f) {
                    broken = f.place < text.length();
                }
                if (!broken) {
                    fault(text, 2, text.length());
                    fault(text + " ", 2, text.length() + 1);
                    fault(text + " \n\n ", 2, text.length() + 4);
                }
            }
        }
    }

    /** Each token of sound parts put off, told twice, and each other token in its place: as the model tells it. */
    private static void eachTokenInEachPlace() {
        String[] texts = {"thing b worth 5 exempt ;", "makes a from c d ;", "work w needs a c ;", "voter u ;", "hates v a 3 ;",
            "ahead a c ;", "law 2 ;"};
        String ahead = "thing a ; thing c ; thing d ; voter v ; work x needs a ; ";
        String[] pieces = (String.join(" ", KEYWORDS) + " ; < > = 0 1 2 3 9 10 99 100 9999 00000 a b c d v w x u q abcdefgh abcdefghi A - 1a a1")
            .split(" ");
        for (String text : texts) {
            String[] tokens = text.split(" ");
            for (int i = 0; i <= tokens.length; i++) {
                for (String piece : pieces) {
                    compare(ahead + Edges.with(tokens, i, piece, false));
                    if (i < tokens.length) {
                        compare(ahead + Edges.with(tokens, i, piece, true));
                    }
                }
                if (i < tokens.length) {
                    compare(ahead + Edges.with(tokens, i, "", true));
                }
            }
        }
    }

    private static void compare(String text) {
        TextModel model = new TextModel(text, new HashMap<>());
        try {
            model.city();
        } catch (TextModel.Fault f) {
            fault(text, f.kind, f.place);
            return;
        }
        taken(text, model.counted);
    }
}
