import java.util.HashMap;
import java.util.Map;

/** The terms of the CENTURIES' text: steps, tests, numbers, names and faults, each at its edges. */
final class EdgesStoryTextTest {
    private static final String[] KEYWORDS = ("thing worth exempt makes from work needs voter hates ahead law year unmake"
        + " remake spare joke when stands done votes loop end stop").split(" ");

    public static void main(String[] args) {
        emptyTexts();
        eachByte();
        years();
        rounds();
        comparedNumbers();
        numbersOfOneToFourDigits();
        names();
        keywordsAreNoNames();
        ends();
        steps();
        depths();
        theLeastKindOfOneToken();
        theEndIsTheTextsLength();
        eachTokenInEachPlace();
        Kit.end("EdgesStoryTextTest");
    }

    private static Kit town() {
        return Kit.of(TextsTest.TOWN);
    }

    private static void taken(String text, int steps) {
        Kit k = town();
        k.fine(text, k.centuries(text), steps);
        Kit.due("no fault in " + text, k.it.fault(0), 0);
        Kit.due("no place in " + text, k.it.fault(1), Unmade.NONE);
    }

    private static void fault(String text, int kind, int place) {
        Kit k = town();
        k.refused(text, k.centuries(text), 10);
        Kit.due("fault of " + text, k.it.fault(0), kind);
        Kit.due("place of " + text, k.it.fault(1), place);
        k.refused("no centuries by " + text, k.it.live(0), 8);
    }

    /** {STEP}, any number of times: none, too. */
    private static void emptyTexts() {
        taken("", 0);
        taken(" ", 0);
        taken("\n", 0);
        taken(" ".repeat(300), 0);
        taken("\n".repeat(300), 0);
        fault(";", 2, 0);
        fault(" ".repeat(299) + ";", 2, 299);
        fault(" ".repeat(299) + "!", 1, 299);
    }

    /** Blanks, letters, digits, signs, and bytes with which no TOKEN begins. */
    private static void eachByte() {
        for (int b = 0; b < 256; b++) {
            String sign = String.valueOf((char) b);
            boolean blank = b == 10 || b == 32;
            boolean begins = b >= 'a' && b <= 'z' || b >= '0' && b <= '9' || ";<>=".indexOf(b) >= 0;
            if (blank) {
                taken(sign + "joke;", 1);
                taken("joke" + sign + ";", 1);
                taken("joke;" + sign, 1);
            } else {
                fault(sign + "joke;", begins ? 2 : 1, 0);
                fault("joke;" + sign, begins ? 2 : 1, 5);
                boolean letter = b >= 'a' && b <= 'z';
                if (b == ';') {
                    fault("joke;;", 2, 5);
                } else {
                    fault("joke" + sign + ";", begins ? 2 : 1, letter ? 0 : 4);
                }
            }
        }
    }

    /** year: so many (1 to 9). */
    private static void years() {
        for (int n = 1; n <= 9; n++) {
            Kit k = town();
            k.fine("year " + n, k.centuries("year " + n + ";"), 1);
            k.fine("lived", k.it.live(0), 1);
            k.fine("years", k.it.lived(1), n);
        }
        for (int n : new int[] {0, 10, 11, 99, 100, 999, 1000, 9999}) {
            fault("year " + n + ";", 4, 5);
        }
        fault("year 0000;", 4, 5);
        taken("year 0009;", 1);
        fault("year;", 2, 4);
        fault("year nail;", 2, 5);
        fault("year 1 1;", 2, 7);
        fault("year <;", 2, 5);
    }

    /** loop n (1 to 99). */
    private static void rounds() {
        for (int n : new int[] {1, 2, 9, 10, 98, 99}) {
            Kit k = town();
            k.fine("loop " + n, k.centuries("loop " + n + ";spare nail;end;"), 2);
            k.fine("lived", k.it.live(0), n + 1);
        }
        for (int n : new int[] {0, 100, 101, 127, 128, 256, 999, 1000, 9999}) {
            fault("loop " + n + ";end;", 4, 5);
        }
        fault("loop 0000;end;", 4, 5);
        taken("loop 0099;end;", 1);
        fault("loop;end;", 2, 4);
        fault("loop nail;end;", 2, 5);
        fault("loop 2 2;end;", 2, 7);
        fault("loop 2 end;", 2, 7);
    }

    /** when votes NAME COMPARES NUMBER (0 to 99). */
    private static void comparedNumbers() {
        for (String sign : new String[] {"<", ">", "="}) {
            for (int n : new int[] {0, 1, 9, 10, 54, 98, 99}) {
                taken("when votes nail " + sign + " " + n + ";end;", 1);
            }
            for (int n : new int[] {100, 101, 127, 256, 999, 1000, 9999}) {
                fault("when votes nail " + sign + " " + n + ";end;", 4, 18);
            }
            taken("when votes nail" + sign + "0099;end;", 1);
            fault("when votes nail " + sign + ";end;", 2, 17);
            fault("when votes nail " + sign + " " + sign + " 1;end;", 2, 18);
            fault("when votes nail " + sign + " wood;end;", 2, 18);
            fault("when votes nail " + sign + " 1 1;end;", 2, 20);
            fault("when votes " + sign + " 1;end;", 2, 11);
        }
        fault("when votes nail 1;end;", 2, 16);
        fault("when votes nail;end;", 2, 15);
        fault("when votes nail ; 1;end;", 2, 16);
        fault("when votes;end;", 2, 10);
        fault("when stands nail > 1;end;", 2, 17);
        fault("when done cross > 1;end;", 2, 16);
    }

    /** A NUMBER of 5 digits and more: 1, at its first. */
    private static void numbersOfOneToFourDigits() {
        for (String number : new String[] {"00001", "12345", "99999", "65537", "4294967297", "18446744073709551617", "1".repeat(200)}) {
            fault("year " + number + ";", 1, 5);
            fault("loop " + number + ";end;", 1, 5);
            fault("when votes nail < " + number + ";end;", 1, 18);
            fault("unmake " + number + ";", 1, 7);
            fault(number, 1, 0);
        }
    }

    /** 3 a NAME that is no such one: a WORK behind done, else a THING. 2 where a WORD of 9 letters stands. */
    private static void names() {
        String[] notThings = {"cross", "trade", "ann", "cid", "nails", "nai", "q", "abcdefgh"};
        for (String name : notThings) {
            fault("unmake " + name + ";", 3, 7);
            fault("remake " + name + ";", 3, 7);
            fault("spare " + name + ";", 3, 6);
            fault("when stands " + name + ";end;", 3, 12);
            fault("when votes " + name + " > 1;end;", 3, 11);
        }
        for (String name : new String[] {"nail", "oil", "ann", "bob", "crosss", "cros", "q", "abcdefgh"}) {
            fault("when done " + name + ";end;", 3, 10);
        }
        for (String name : new String[] {"abcdefghi", "nailnailn", "q".repeat(64), "q".repeat(200)}) {
            fault("unmake " + name + ";", 2, 7);
            fault("remake " + name + ";", 2, 7);
            fault("spare " + name + ";", 2, 6);
            fault("when stands " + name + ";end;", 2, 12);
            fault("when votes " + name + " > 1;end;", 2, 11);
            fault("when done " + name + ";end;", 2, 10);
            fault(name + ";", 2, 0);
        }
        for (String name : new String[] {"nail", "wood", "lamp", "oil", "bridge", "boat", "song", "cart"}) {
            taken("unmake " + name + ";remake " + name + ";spare " + name + ";when stands " + name + ";end;when votes " + name + "=0;end;", 5);
        }
        for (String name : new String[] {"evening", "cross", "trade"}) {
            taken("when done " + name + ";end;", 1);
        }
        fault("unmake nail wood;", 2, 12);
        fault("unmake;", 2, 6);
        fault("remake;", 2, 6);
        fault("spare;", 2, 5);
        fault("when stands;end;", 2, 11);
        fault("when done;end;", 2, 9);
        fault("when nail;end;", 2, 5);
        fault("when;", 2, 4);
        fault("joke nail;", 2, 5);
        fault("stop nail;", 2, 5);
        fault("end nail;", 2, 0);
        fault("loop 1;end nail;", 2, 11);
        Kit bare = new Kit();
        bare.refused("no thing", bare.centuries("unmake a;"), 10);
        Kit.due("of a city of nothing", bare.it.fault(0), 3);
        bare.refused("no work", bare.centuries("when done a;end;"), 10);
        Kit.due("of a city of nothing", bare.it.fault(0), 3);
        bare.fine("without names", bare.centuries("year 9;joke;stop;loop 99;end;"), 4);
    }

    private static void keywordsAreNoNames() {
        for (String word : KEYWORDS) {
            fault("unmake " + word + ";", 2, 7);
            fault("remake " + word + ";", 2, 7);
            fault("spare " + word + ";", 2, 6);
            fault("when stands " + word + ";end;", 2, 12);
            fault("when done " + word + ";end;", 2, 10);
            fault("when votes " + word + ">1;end;", 2, 11);
        }
        for (String word : new String[] {"thing", "worth", "exempt", "makes", "from", "work", "needs", "voter", "hates", "ahead", "law",
            "stands", "done", "votes", "end", "nail"}) {
            fault(word + " nail;", 2, 0);
            fault("joke;" + word, 2, 5);
        }
        for (String word : KEYWORDS) {
            if (!word.equals("stands") && !word.equals("done") && !word.equals("votes")) {
                fault("when " + word + " nail;end;", 2, 5);
            }
        }
    }

    /** An end without a beginning; the text's end ahead of an end: 2. */
    private static void ends() {
        fault("end;", 2, 0);
        fault("joke;end;", 2, 5);
        fault("loop 1;end;end;", 2, 11);
        fault("loop 1;loop 1;end;end;end;", 2, 22);
        fault("loop 1;", 2, 7);
        fault("loop 1; ", 2, 8);
        fault("when stands nail;joke;", 2, 22);
        fault("loop 1;loop 1;end;", 2, 18);
        fault("loop 1;loop 1;loop 1;end;end;", 2, 29);
        fault("loop 1;end", 2, 10);
        fault("loop 1;end ", 2, 11);
        taken("loop 1;end;", 1);
        taken("when stands nail;end;", 1);
        taken("loop 1;end;loop 1;end;", 2);
        // those that an ended text left open are not ended by another
        Kit k = town();
        k.refused("open", k.centuries("loop 1;loop 1;loop 1;"), 10);
        k.refused("an end", k.centuries("end;"), 10);
        Kit.due("without a beginning", k.it.fault(1), 0);
        k.fine("three within", k.centuries("loop 1;loop 1;loop 1;end;end;end;"), 3);
    }

    /** 6 a 31st STEP (at its WORD; end is none). */
    private static void steps() {
        for (int n : new int[] {0, 1, 29, 30}) {
            taken("joke;".repeat(n), n);
            taken("stop;".repeat(n), n);
        }
        String[] all = {"year 1;", "unmake oil;", "remake oil;", "spare oil;", "joke;", "stop;", "when stands oil;end;", "loop 1;end;"};
        for (String step : all) {
            String text = "joke;".repeat(29) + step;
            taken(text, 30);
            String thirty = "stop;".repeat(30);
            fault(thirty + step, 6, 150);
            fault(thirty + " " + step, 6, 151);
            String word = step.substring(0, step.indexOf(step.indexOf(' ') > 0 ? ' ' : ';'));
            for (String behind : new String[] {"", ";", " 12345", " q", " !", " nail;"}) {
                fault(thirty + word + behind, 6, 150);
            }
        }
        taken("loop 1;end;".repeat(24) + "joke;".repeat(6), 30);
        taken("loop 1;" + "joke;".repeat(29) + "end;", 30);
        taken("loop 1;loop 1;loop 1;" + "joke;".repeat(27) + "end;end;end;", 30);
        fault("loop 1;" + "joke;".repeat(29) + "joke;end;", 6, 152);
        fault("joke;".repeat(30) + "end;", 2, 150);
        fault("joke;".repeat(30) + "nail;", 2, 150);
        fault("joke;".repeat(30) + "thing;", 2, 150);
        fault("joke;".repeat(30) + "12345;", 1, 150);
    }

    /** 7 a when, loop within three others (at its WORD); of a 31st STEP the least kind is 6. */
    private static void depths() {
        String[] opening = {"loop 1;", "when stands oil;", "when done cross;", "when votes oil<9;"};
        for (String a : opening) {
            for (String b : opening) {
                taken(a + b + "end;end;", 2);
                String three = a + b + "loop 3;";
                taken(three + "joke;end;end;end;", 4);
                for (String c : opening) {
                    fault(three + c + "end;end;end;end;", 7, three.length());
                    fault(three + "joke;" + c, 7, three.length() + 5);
                    fault(three + "end;" + a + c, 7, three.length() + 4 + a.length());
                    taken(three + "end;" + c + "end;end;end;", 4);
                    taken(three + "end;end;" + c + "loop 1;end;end;end;", 5);
                    taken(three + "end;end;end;" + c + "end;", 4);
                }
                for (String behind : new String[] {"loop", "loop;", "loop 0;", "loop 12345;", "when", "when;", "when q;", "when done nail;"}) {
                    fault(three + behind, 7, three.length());
                }
                fault(three + "nail;", 2, three.length());
                fault(three + "stands nail;", 2, three.length());
            }
        }
        String full = "joke;".repeat(27) + "loop 1;loop 1;loop 1;";
        fault(full + "loop 1;", 6, full.length());
        fault(full + "when stands oil;", 6, full.length());
        String less = "joke;".repeat(26) + "loop 1;loop 1;loop 1;";
        fault(less + "loop 1;", 7, less.length());
        taken(less + "joke;end;end;end;", 30);
    }

    /** 1 ahead of 2, 3 and 4, where one TOKEN is meant. */
    private static void theLeastKindOfOneToken() {
        for (String none : new String[] {"12345", "!", "Q", "\t", "-1", String.valueOf((char) 0), String.valueOf((char) 128)}) {
            fault(none, 1, 0);
            fault("year " + none, 1, 5);
            fault("year 1 " + none, 1, 7);
            fault("unmake " + none, 1, 7);
            fault("unmake nail " + none, 1, 12);
            fault("joke " + none, 1, 5);
            fault("when " + none, 1, 5);
            fault("when stands " + none, 1, 12);
            fault("when votes nail " + none, 1, 16);
            fault("when votes nail = " + none, 1, 18);
            fault("loop 1;" + none, 1, 7);
            fault("loop 1;end " + none, 1, 11);
            fault("joke;".repeat(30) + none, 1, 150);
            fault("loop 1;loop 1;loop 1;" + none, 1, 21);
        }
        // the first along the text
        fault("year 0;unmake q;", 4, 5);
        fault("unmake q;year 0;", 3, 7);
        fault("joke unmake q;", 2, 5);
        fault("end;loop 0;", 2, 0);
        fault("loop 0;!", 4, 5);
    }

    private static void theEndIsTheTextsLength() {
        String[] steps = {"year 1;", "unmake oil;", "remake oil;", "spare oil;", "joke;", "stop;", "when stands oil;end;",
            "when done cross;joke;end;", "when votes oil < 5;end;", "loop 1;end;"};
        for (String step : steps) {
            for (int end = 1; end < step.length(); end++) {
                String text = step.substring(0, end);
                boolean inside = true;
                try {
                    new TextModel(text, TOWNSFOLK).centuries();
                } catch (TextModel.Fault f) {
                    inside = f.place < text.length();
                }
                if (!inside) {
                    fault(text, 2, text.length());
                    fault(text + " ", 2, text.length() + 1);
                    fault(text + "\n  \n", 2, text.length() + 4);
                }
            }
        }
    }

    private static final Map<String, Character> TOWNSFOLK = townsfolk();

    private static Map<String, Character> townsfolk() {
        Map<String, Character> names = new HashMap<>();
        new TextModel(TextsTest.TOWN, names).city();
        return names;
    }

    /** Each token of sound steps put off, told twice, and each other token in its place: as the model tells it. */
    private static void eachTokenInEachPlace() {
        String[] texts = {"year 5 ;", "unmake nail ;", "remake nail ;", "spare nail ;", "joke ;", "stop ;", "when stands nail ; end ;",
            "when done cross ; joke ; end ;", "when votes nail > 5 ; end ;", "loop 5 ; end ;", "loop 5 ; loop 6 ; end ; stop ; end ;"};
        String[] pieces = (String.join(" ", KEYWORDS) + " ; < > = 0 1 9 10 99 100 9999 00000 nail cross ann q abcdefgh abcdefghi A - 1a").split(" ");
        for (String text : texts) {
            String[] tokens = text.split(" ");
            for (int i = 0; i <= tokens.length; i++) {
                for (String piece : pieces) {
                    compare("joke ; " + Edges.with(tokens, i, piece, false));
                    if (i < tokens.length) {
                        compare("joke ; " + Edges.with(tokens, i, piece, true));
                    }
                }
                if (i < tokens.length) {
                    compare("joke ; " + Edges.with(tokens, i, "", true));
                }
            }
        }
    }

    private static void compare(String text) {
        TextModel model = new TextModel(text, TOWNSFOLK);
        try {
            model.centuries();
        } catch (TextModel.Fault f) {
            fault(text, f.kind, f.place);
            return;
        }
        taken(text, model.counted);
    }
}
