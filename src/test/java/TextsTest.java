/** Promises 9 to 18: the tape, the texts and their faults, what a city tells. */
final class TextsTest {
    static final String TOWN = "thing nail worth 2;thing wood worth 3;thing lamp worth 5;thing oil worth 4 exempt;"
        + "thing bridge worth 20;thing boat worth 8;thing song;thing cart worth 6;makes bridge from nail wood;"
        + "makes boat from wood;makes boat from cart;makes cart from nail;makes lamp from oil;"
        + "work evening needs lamp;work cross needs bridge;work trade needs cart boat;voter ann;voter bob;voter cid;"
        + "hates ann bridge 5;hates ann nail 3;hates bob nail 4;hates cid wood 6;hates cid nail 1;hates bob song 4;"
        + "ahead nail bridge;ahead wood boat;ahead nail cart;";

    public static void main(String[] args) {
        feeding();
        takingCities();
        takingCenturies();
        cityFaults();
        cityLimits();
        centuryFaults();
        centuryLimits();
        faultTells();
        whatACityTells();
        worthOnTrays();
        Kit.end("TextsTest");
    }

    private static void feeding() {
        Kit k = new Kit();
        for (int n = 20; n <= 900; n += 20) {
            Kit.due("feed to " + n, k.it.feed(0x20202020, 0x0a0a0a0a, 0x20202020, 0x20202020, 0x20202020), n);
        }
        Kit.due("feed beyond 900", k.it.feed(0, 0, 0, 0, 0), Unmade.NONE);
        Kit.due("feed has no status", k.it.status(), 0);
        k.fine("900 blanks are a city", k.it.city(900), 0);
        Kit.due("the tape is empty", k.it.feed(0x61626364, 0, 0, 0, 0), 20);
        k.refused("the highest byte first", k.it.city(4), 10);
        Kit.due("abcd is no part", k.it.fault(0), 2);
        k.it.feed(0x20206162, 0, 0, 0, 0);
        k.refused("ab behind two blanks", k.it.city(4), 10);
        Kit.due("its place", k.it.fault(1), 2);
        k.it.feed(0x20202020, 0x20202020, 0x20202020, 0x20202020, 0x20202041);
        k.it.feed(0x20202020, 0x20202020, 0x20202020, 0x20202020, 0x20202020);
        k.refused("the lowest byte last", k.it.city(40), 10);
        Kit.due("its place", k.it.fault(1), 19);
    }

    private static void takingCities() {
        Kit k = new Kit();
        k.feed("thing a;thing b;");
        k.refused("city(21)", k.it.city(21), 5);
        k.refused("city(-1)", k.it.city(-1), 5);
        k.refused("city(least)", k.it.city(Integer.MIN_VALUE), 5);
        Kit.due("no fault yet", k.it.fault(0), Unmade.NONE);
        k.fine("the tape stays with 5", k.it.city(8), 1);
        k.refused("the tape is empty then", k.it.city(1), 5);
        k.fine("unmake", k.it.unmake(0), 1);
        k.fine("years", k.it.year(3), 0);
        k.fine("centuries", k.centuries("year 1;"), 1);
        k.refused("a fault", k.city("thing b"), 10);
        k.fine("the old one stays", k.it.many(0), 1);
        k.fine("and what is unmade", k.it.many(7), 1);
        k.fine("and the year", k.it.many(5), 3);
        k.fine("and the centuries", k.it.live(0), 1);
        k.refused("the tape is empty by 10", k.it.city(1), 5);
        k.fine("another city", k.city("thing b;thing c;law 2;"), 2);
        k.fine("year 0", k.it.many(5), 0);
        k.fine("nothing unmade", k.it.many(7), 0);
        k.fine("its law", k.it.many(4), 2);
        k.refused("no centuries", k.it.live(0), 8);
        k.fine("a city of nothing", k.it.city(0), 0);
        k.fine("no things", k.it.many(0), 0);
        k.fine("law 0", k.it.many(4), 0);
    }

    private static void takingCenturies() {
        Kit k = Kit.of(TOWN);
        k.refused("no centuries", k.it.live(0), 8);
        k.feed("joke;");
        k.refused("centuries(21)", k.it.centuries(21), 5);
        k.refused("centuries(-1)", k.it.centuries(-1), 5);
        k.fine("the tape stays with 5", k.it.centuries(5), 1);
        k.refused("the tape is empty then", k.it.centuries(1), 5);
        k.refused("a fault", k.centuries("year 9; joke"), 10);
        k.refused("the tape is empty by 10", k.it.centuries(1), 5);
        k.fine("the old ones stay", k.it.live(3), 1);
        Kit.due("a joke", k.it.lived(3), 1);
        k.fine("centuries of nothing", k.it.centuries(0), 0);
        k.fine("are lived", k.it.live(3), 0);
        k.feed(" ".repeat(320));
        k.refused("centuries(301)", k.it.centuries(301), 5);
        k.fine("centuries(300)", k.it.centuries(300), 0);
        k.fine("another city", k.city("thing hat;thing nail;work walk needs hat;"), 2);
        k.refused("no name of the old one", k.centuries("unmake lamp;"), 10);
        k.fine("names of the new one", k.centuries("unmake nail;when done walk;joke;end;"), 3);
        k.fine("lived", k.it.live(0), 3);
        k.fine("by its numbers", k.it.many(7), 3);
        k.fine("and one more city", k.city("thing nail;thing hat;work trade needs hat;"), 2);
        k.refused("no work of that ahead", k.centuries("when done walk;end;"), 10);
        k.fine("its own", k.centuries("when done trade;unmake nail;end;"), 2);
        k.fine("lived", k.it.live(0), 2);
        k.fine("by its numbers", k.it.many(7), 1);
        k.fine("the town", k.city(TOWN), 8);
        k.fine("ends are no steps", k.centuries("loop 2;when stands oil;year 1;end;end;"), 3);
    }

    private static void cityFault(String text, int kind, int place) {
        Kit k = new Kit();
        k.refused(text, k.city(text), 10);
        Kit.due("fault of " + text, k.it.fault(0), kind);
        Kit.due("place of " + text, k.it.fault(1), place);
    }

    private static void cityTaken(String text, int things) {
        Kit k = new Kit();
        k.fine(text, k.city(text), things);
        Kit.due("no fault in " + text, k.it.fault(0), 0);
        Kit.due("no place in " + text, k.it.fault(1), Unmade.NONE);
    }

    private static void cityFaults() {
        cityTaken("thing\na\nworth 0099\n exempt ;\n", 1);
        cityTaken("thing abcdefgh;thing a worth5exempt;", 2);
        cityTaken("thing a;thing b;makes a from b b b;makes a from b;ahead a b;ahead a b;ahead b a;", 2);
        cityFault("Thing a;", 1, 0);
        cityFault("thing a-;", 1, 7);
        cityFault("thing a\t;", 1, 7);
        cityFault("thing a\r;", 1, 7);
        cityFault("thing " + (char) 228 + ";", 1, 6);
        cityFault("thing a" + (char) 0 + ";", 1, 7);
        cityFault("thing a worth 12345;", 1, 14);
        cityFault("thing 12345;", 1, 6);
        cityTaken("thing zz;thing az;thing a worth 90;thing b worth 09;", 4);
        cityFault("thing a`;", 1, 7);
        cityFault("thing a{;", 1, 7);
        cityFault("thing a worth 1/;", 1, 15);
        cityFault("thing a worth 1:;", 1, 15);
        cityFault("thing a worth 1?;", 1, 15);
        cityFault("a 12345", 2, 0);
        cityFault("thing", 2, 5);
        cityFault("thing  ", 2, 7);
        cityFault("thing a", 2, 7);
        cityFault("thing a worth", 2, 13);
        cityFault("thing a worth 1", 2, 15);
        cityFault("thing a exempt worth 1;", 2, 15);
        cityFault("thing a worth 1 worth 1;", 2, 16);
        cityFault("thing a exempt exempt;", 2, 15);
        cityFault("thing abcdefghi;", 2, 6);
        cityFault("abcdefghi", 2, 0);
        cityFault("thing 12;", 2, 6);
        cityFault("thing ;", 2, 6);
        cityFault("thing a worth a;", 2, 14);
        cityFault("thing a <", 2, 8);
        cityFault("; thing a;", 2, 0);
        cityFault("thing a;;", 2, 8);
        cityFault("year 1;", 2, 0);
        cityFault("end;", 2, 0);
        for (String word : ("thing worth exempt makes from work needs voter hates ahead law year unmake remake spare"
            + " joke when stands done votes loop end stop").split(" ")) {
            cityFault("thing " + word + ";", 2, 6);
        }
        cityTaken("thing name;thing worths;thing thin;thing things;thing made;", 5);
        cityFault("thing a;thing a;", 3, 14);
        cityFault("thing a;work a needs a;", 3, 13);
        cityFault("thing a;work w needs a;voter w;", 3, 29);
        cityFault("voter v;thing v;", 3, 14);
        cityFault("voter v;voter v;", 3, 14);
        cityFault("makes a from b;", 3, 6);
        cityFault("thing a;makes a from b;", 3, 21);
        cityFault("thing a;voter v;makes a from v;", 3, 29);
        cityFault("thing a;voter v;makes v from a;", 3, 22);
        cityFault("thing a;makes a b;", 2, 16);
        cityFault("thing a;makes a from;", 2, 20);
        cityFault("thing a;thing b;makes a from b 1;", 2, 31);
        cityFault("thing a;makes a from a;", 5, 21);
        cityFault("thing a;thing b;makes a from b a;", 5, 31);
        cityFault("thing a;work w needs w;", 3, 21);
        cityFault("thing a;work w needs;", 2, 20);
        cityFault("thing a;work w a;", 2, 15);
        cityFault("thing a;hates v a 1;", 3, 14);
        cityFault("thing a;voter v;hates a v 1;", 3, 22);
        cityFault("thing a;voter v;hates v v 1;", 3, 24);
        cityFault("thing a;voter v;hates v a 10;", 4, 26);
        cityFault("thing a;voter v;hates v a;", 2, 25);
        cityFault("thing a worth 100;", 4, 14);
        cityFault("thing a worth 9999;", 4, 14);
        cityFault("ahead a a;", 3, 6);
        cityFault("thing a;ahead a a;", 5, 16);
        cityFault("thing a;ahead a b;", 3, 16);
        cityFault("thing a;thing b;ahead a b c;", 2, 26);
        cityFault("law 3;", 4, 4);
        cityFault("law 1;law 1;", 5, 6);
        cityFault("law 1;law 3;", 5, 6);
        cityFault("law;", 2, 3);
        cityFault("law 1;thing law;", 2, 12);
    }

    private static String repeated(String before, String name, String behind, int many) {
        StringBuilder b = new StringBuilder();
        for (int k = 0; k < many; k++) {
            b.append(before).append(name).append(name.isEmpty() ? "" : String.valueOf((char) ('a' + k))).append(behind);
        }
        return b.toString();
    }

    private static void cityLimits() {
        String twelve = repeated("thing ", "t", ";", 12);
        cityTaken(twelve, 12);
        cityFault(twelve + "thing ta;", 6, twelve.length());
        cityFault(twelve + " thing", 6, twelve.length() + 1);
        String makings = "thing a;thing b;" + repeated("makes a from b", "", ";", 16);
        cityTaken(makings, 2);
        cityFault(makings + "makes x;", 6, makings.length());
        String works = "thing a;" + repeated("work ", "w", " needs a;", 6);
        cityTaken(works, 1);
        cityFault(works + "work", 6, works.length());
        String voters = repeated("voter ", "v", ";", 6);
        cityTaken(voters, 0);
        cityFault(voters + "voter va;", 6, voters.length());
        String filled = twelve + " ".repeat(900 - twelve.length() - 6) + "law 2;";
        Kit k = new Kit();
        k.fine("a city of 900 bytes", k.city(filled), 12);
        k.fine("up to its end", k.it.many(4), 2);
    }

    private static void centuryFault(String text, int kind, int place) {
        Kit k = Kit.of(TOWN);
        k.refused(text, k.centuries(text), 10);
        Kit.due("fault of " + text, k.it.fault(0), kind);
        Kit.due("place of " + text, k.it.fault(1), place);
        k.refused("none by " + text, k.it.live(0), 8);
    }

    private static void centuryFaults() {
        centuryFault("Year 1;", 1, 0);
        centuryFault("year 12345;", 1, 5);
        centuryFault("when votes nail ! 1;", 1, 16);
        centuryFault("thing a;", 2, 0);
        centuryFault("law 1;", 2, 0);
        centuryFault("nail;", 2, 0);
        centuryFault("stands nail;", 2, 0);
        centuryFault("votes nail > 1;", 2, 0);
        centuryFault("done cross;", 2, 0);
        centuryFault("year;", 2, 4);
        centuryFault("year 1", 2, 6);
        centuryFault("year 0;", 4, 5);
        centuryFault("year 10;", 4, 5);
        centuryFault("unmake;", 2, 6);
        centuryFault("unmake 1;", 2, 7);
        centuryFault("unmake abcdefghi;", 2, 7);
        centuryFault("unmake abcdefgh;", 3, 7);
        centuryFault("unmake year;", 2, 7);
        centuryFault("unmake cross;", 3, 7);
        centuryFault("remake ann;", 3, 7);
        centuryFault("spare nails;", 3, 6);
        centuryFault("joke nail;", 2, 5);
        centuryFault("stop 1;", 2, 5);
        centuryFault("when;", 2, 4);
        centuryFault("when nail;", 2, 5);
        centuryFault("when stands;", 2, 11);
        centuryFault("when stands cross;end;", 3, 12);
        centuryFault("when done nail;end;", 3, 10);
        centuryFault("when done ann;end;", 3, 10);
        centuryFault("when votes cross > 1;end;", 3, 11);
        centuryFault("when votes nail;end;", 2, 15);
        centuryFault("when votes nail ; 1;end;", 2, 16);
        centuryFault("when votes nail <;end;", 2, 17);
        centuryFault("when votes nail < > 1;end;", 2, 18);
        centuryFault("when votes nail = 100;end;", 4, 18);
        centuryFault("when stands nail = 1;end;", 2, 17);
        centuryFault("when stands nail;", 2, 17);
        centuryFault("when stands nail; ", 2, 18);
        centuryFault("loop 0;end;", 4, 5);
        centuryFault("loop 100;end;", 4, 5);
        centuryFault("loop nail;end;", 2, 5);
        centuryFault("loop 1;end", 2, 10);
        centuryFault("end;", 2, 0);
        centuryFault("loop 1;end;end;", 2, 11);
        centuryFault("loop 1;loop 1;end;", 2, 18);
        Kit empty = new Kit();
        empty.fine("centuries of a city of nothing", empty.centuries("year 9;joke;stop;loop 99;end;"), 4);
        empty.refused("but not with names", empty.centuries("unmake a;"), 10);
        Kit.due("no such name", empty.it.fault(0), 3);
    }

    private static void centuryLimits() {
        String thirty = "joke;".repeat(30);
        Kit k = Kit.of(TOWN);
        k.fine("thirty steps", k.centuries(thirty), 30);
        k.fine("thirty steps, ends not counted", k.centuries("loop 1;end;" + "joke;".repeat(26) + "loop 1;loop 1;loop 1;end;end;end;"), 30);
        centuryFault(thirty + "joke", 6, 150);
        centuryFault(thirty + "loop", 6, 150);
        centuryFault(thirty + "thing", 2, 150);
        centuryFault(thirty + "end;", 2, 150);
        k.refused("two that are not ended", k.centuries("loop 1;loop 1;"), 10);
        k.refused("are not ended by the next text", k.centuries("end;"), 10);
        Kit.due("at its end", k.it.fault(1), 0);
        k.refused("four that are not ended", k.centuries("loop 1;loop 1;loop 1;"), 10);
        k.fine("three within each other", k.centuries("loop 1;when done cross;loop 1;end;loop 2;end;end;end;"), 4);
        centuryFault("loop 1;when done cross;loop 1;when", 7, 30);
        centuryFault("loop 1;when done cross;loop 1;end;loop 2;loop", 7, 41);
        centuryFault("joke;".repeat(27) + "loop 1;loop 1;loop 1;loop", 6, 156);
    }

    private static void faultTells() {
        Kit k = new Kit();
        Kit.due("fault(0) ahead of any", k.it.fault(0), Unmade.NONE);
        Kit.due("fault(1) ahead of any", k.it.fault(1), Unmade.NONE);
        k.it.city(0);
        Kit.due("fault(0) without one", k.it.fault(0), 0);
        Kit.due("fault(1) without one", k.it.fault(1), Unmade.NONE);
        k.city("x");
        k.it.city(1000);
        k.it.mark();
        Kit.due("fault(0) of the latest with 0 or 10", k.it.fault(0), 2);
        Kit.due("fault(1) of the latest with 0 or 10", k.it.fault(1), 0);
        Kit.due("fault(2)", k.it.fault(2), Unmade.NONE);
        Kit.due("fault(-1)", k.it.fault(-1), Unmade.NONE);
        k.it.back();
        Kit.due("a mark does not keep it", k.it.fault(0), 2);
        k.it.centuries(0);
        Kit.due("centuries without one", k.it.fault(0), 0);
        k.centuries(" joke");
        Kit.due("centuries with one", k.it.fault(0), 2);
        Kit.due("its place", k.it.fault(1), 5);
    }

    private static void whatACityTells() {
        Kit k = Kit.of(TOWN + "hates ann nail 9;law 1;");
        int[] many = {8, 5, 3, 3, 1, 0, 255, 0, 0, 8, 7, 49};
        for (int what = 0; what < many.length; what++) {
            k.fine("many(" + what + ")", k.it.many(what), many[what]);
        }
        k.refused("many(12)", k.it.many(12), 5);
        k.refused("many(-1)", k.it.many(-1), 5);
        k.fine("worth without a number", k.it.thing(6, 0), 1);
        k.fine("worth", k.it.thing(4, 0), 20);
        k.fine("it stands", k.it.thing(4, 1), 1);
        k.fine("makings of it", k.it.thing(5, 2), 6);
        k.fine("no makings of it", k.it.thing(0, 2), 0);
        k.fine("ahead of it", k.it.thing(4, 3), 1);
        k.fine("nothing ahead of it", k.it.thing(0, 3), 0);
        k.refused("thing(8, 9)", k.it.thing(8, 9), 2);
        k.refused("thing(-1, 0)", k.it.thing(-1, 0), 2);
        k.refused("thing(0, 4)", k.it.thing(0, 4), 5);
        k.refused("thing(0, -1)", k.it.thing(0, -1), 5);
        k.fine("making of", k.it.making(3, 0), 7);
        k.fine("made from", k.it.making(0, 1), 3);
        k.refused("making(5, 9)", k.it.making(5, 9), 2);
        k.refused("making(-1, 0)", k.it.making(-1, 0), 2);
        k.refused("making(0, 2)", k.it.making(0, 2), 5);
        k.refused("making(0, -1)", k.it.making(0, -1), 5);
        k.fine("needs(2)", k.it.needs(2), 160);
        k.refused("needs(3)", k.it.needs(3), 2);
        k.refused("needs(-1)", k.it.needs(-1), 2);
        k.fine("hates, the latest told", k.it.hate(0, 0), 9);
        k.fine("hates nothing", k.it.hate(2, 7), 0);
        k.refused("hate(3, 0)", k.it.hate(3, 0), 2);
        k.refused("hate(0, 8)", k.it.hate(0, 8), 2);
        k.refused("hate(-1, 0)", k.it.hate(-1, 0), 2);
        k.refused("hate(0, -1)", k.it.hate(0, -1), 2);
        k.fine("unmake nail", k.it.unmake(0), 145);
        int[] then = {8, 5, 3, 3, 1, 0, 110, 1, 144, 8, 1, 21};
        for (int what = 0; what < then.length; what++) {
            k.fine("many(" + what + ") then", k.it.many(what), then[what]);
        }
        k.fine("it does not stand", k.it.thing(4, 1), 0);
        k.fine("nor what is unmade", k.it.thing(0, 1), 0);
        Kit loop = Kit.of("thing a;thing b;thing c;makes a from b;makes b from a;makes b from c;");
        loop.fine("made from each other and another", loop.it.many(6), 7);
        loop.fine("but not from each other alone", loop.it.unmake(2), 7);
        loop.fine("have fallen", loop.it.many(8), 3);
    }

    private static void worthOnTrays() {
        Kit k = Kit.of(TOWN);
        k.refused("copyWorth(-1)", k.it.copyWorth(-1), 1);
        k.refused("copyWorth(4)", k.it.copyWorth(4), 1);
        k.refused("copyWorth to a missing one", k.it.copyWorth(0), 3);
        k.it.tray(0, 0, 7);
        k.it.write(0, 0, 77);
        k.refused("copyWorth to too few", k.it.copyWorth(0), 4);
        k.fine("nothing written", k.it.read(0, 0), 77);
        k.it.tray(0, 0, 9);
        k.it.write(0, 8, 77);
        k.it.write(0, 4, 77);
        k.it.unmake(1);
        k.fine("copyWorth", k.it.copyWorth(0), 8);
        int[] worth = {2, 0, 5, 4, 0, 8, 1, 6, 77};
        for (int t = 0; t < 9; t++) {
            k.fine("worth of " + t, k.it.read(0, t), worth[t]);
        }
        Kit empty = new Kit();
        empty.it.tray(2, 3, 0);
        empty.fine("copyWorth of nothing", empty.it.copyWorth(2), 0);
    }
}
