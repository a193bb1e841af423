import java.util.ArrayList;
import java.util.HashMap;
import java.util.List;
import java.util.Map;
import java.util.Set;
import java.util.regex.Matcher;
import java.util.regex.Pattern;

/** Finds the fault of a text, by a list of all its tokens: what the class's readers are compared with. */
final class TextModel {
    static final Set<String> KEYWORDS = Set.of("thing", "worth", "exempt", "makes", "from", "work", "needs", "voter", "hates",
        "ahead", "law", "year", "unmake", "remake", "spare", "joke", "when", "stands", "done", "votes", "loop", "end", "stop");

    /** The fault that ended the reading. */
    static final class Fault extends RuntimeException {
        private static final long serialVersionUID = 1L;
        final int kind;
        final int place;

        Fault(int kind, int place) {
            this.kind = kind;
            this.place = place;
        }
    }

    private final List<String> tokens = new ArrayList<>();
    private final List<Integer> places = new ArrayList<>();
    private final Map<String, Character> names;
    private int at = 0;
    int counted = 0;

    TextModel(String text, Map<String, Character> known) {
        names = known;
        Matcher m = Pattern.compile("[a-z]+|[0-9]+|[^ \n]").matcher(text);
        while (m.find()) {
            tokens.add(m.group());
            places.add(m.start());
        }
        tokens.add("");
        places.add(text.length());
    }

    private Fault fault(int kind) {
        String t = tokens.get(at);
        boolean broken = t.matches("[0-9]{5,}") || !t.isEmpty() && !t.matches("[a-z]+|[0-9]+|[;<>=]");
        return new Fault(broken ? 1 : kind, places.get(at));
    }

    private boolean is(String token) {
        return tokens.get(at).equals(token);
    }

    private void pass(String token) {
        if (!is(token)) {
            throw fault(2);
        }
        at++;
    }

    private String nameHere() {
        String t = tokens.get(at);
        if (!t.matches("[a-z]{1,8}") || KEYWORDS.contains(t)) {
            throw fault(2);
        }
        return t;
    }

    private void fresh(char kind) {
        String name = nameHere();
        if (names.containsKey(name)) {
            throw fault(3);
        }
        names.put(name, kind);
        at++;
    }

    private String known(char kind, String butNot) {
        String name = nameHere();
        if (!names.containsKey(name) || names.get(name) != kind) {
            throw fault(3);
        }
        if (name.equals(butNot)) {
            throw fault(5);
        }
        at++;
        return name;
    }

    private void number(int least, int most) {
        if (!tokens.get(at).matches("[0-9]{1,4}")) {
            throw fault(2);
        }
        int value = Integer.parseInt(tokens.get(at));
        if (value < least || value > most) {
            throw fault(4);
        }
        at++;
    }

    private void count(Map<String, Integer> counts, String word, int most) {
        if (counts.merge(word, 1, Integer::sum) > most) {
            throw fault(6);
        }
        at++;
    }

    /** Reads a city; the names that it tells are left in the map, the things counted. */
    void city() {
        Map<String, Integer> counts = new HashMap<>();
        while (!is("")) {
            String word = tokens.get(at);
            switch (word) {
                case "thing":
                    count(counts, word, 12);
                    fresh('t');
                    counted++;
                    if (is("worth")) {
                        at++;
                        number(0, 99);
                    }
                    at += is("exempt") ? 1 : 0;
                    break;
                case "makes":
                    count(counts, word, 16);
                    String product = known('t', null);
                    pass("from");
                    several(product);
                    break;
                case "work":
                    count(counts, word, 6);
                    fresh('w');
                    pass("needs");
                    several(null);
                    break;
                case "voter":
                    count(counts, word, 6);
                    fresh('v');
                    break;
                case "hates":
                    at++;
                    known('v', null);
                    known('t', null);
                    number(0, 9);
                    break;
                case "ahead":
                    at++;
                    known('t', known('t', null));
                    break;
                case "law":
                    if (counts.merge(word, 1, Integer::sum) > 1) {
                        throw fault(5);
                    }
                    at++;
                    number(0, 2);
                    break;
                default:
                    throw fault(2);
            }
            pass(";");
        }
    }

    private void several(String butNot) {
        do {
            known('t', butNot);
        } while (!is(";"));
    }

    /** Reads centuries; the steps are counted. */
    void centuries() {
        steps(0);
        if (!is("")) {
            throw fault(2);
        }
    }

    private void steps(int depth) {
        while (!is("") && !is("end")) {
            String word = tokens.get(at);
            if (!Set.of("year", "unmake", "remake", "spare", "joke", "when", "loop", "stop").contains(word)) {
                throw fault(2);
            }
            counted++;
            if (counted > 30) {
                throw fault(6);
            }
            boolean opens = word.equals("when") || word.equals("loop");
            if (opens && depth == 3) {
                throw fault(7);
            }
            at++;
            step(word);
            pass(";");
            if (opens) {
                steps(depth + 1);
                pass("end");
                pass(";");
            }
        }
    }

    private void step(String word) {
        if (word.equals("year")) {
            number(1, 9);
        } else if (word.equals("loop")) {
            number(1, 99);
        } else if (word.equals("when")) {
            test();
        } else if (!word.equals("joke") && !word.equals("stop")) {
            known('t', null);
        }
    }

    private void test() {
        if (is("done")) {
            at++;
            known('w', null);
        } else if (is("stands")) {
            at++;
            known('t', null);
        } else {
            pass("votes");
            known('t', null);
            if (!is("<") && !is(">") && !is("=")) {
                throw fault(2);
            }
            at++;
            number(0, 99);
        }
    }
}
