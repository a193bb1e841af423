import java.util.ArrayList;
import java.util.List;
import java.util.function.IntSupplier;

/** Reads the texts of Plain, sign by sign: a city into a town that is new, or centuries about a town. */
final class PlainText {
    private static final List<String> NO_NAMES = List.of("thing", "worth", "exempt", "makes", "from", "work", "needs", "voter",
        "hates", "ahead", "law", "year", "unmake", "remake", "spare", "joke", "when", "stands", "done", "votes", "loop", "end", "stop");

    /** A step of centuries, with those within it. */
    static final class Step {
        String word;
        String test = "";
        int object;
        int number;
        char sign;
        final List<Step> within = new ArrayList<>();
    }

    private static final class Fault extends RuntimeException {
        private static final long serialVersionUID = 1L;
        final int[] told;

        Fault(int kind, int place) {
            super(null, null, false, false);
            told = new int[] {kind, place};
        }
    }

    private final String text;
    private final PlainTown town;
    final List<Step> steps = new ArrayList<>();
    int counted = 0;
    private boolean lawTold = false;
    private int place;
    private String token;

    PlainText(String text, PlainTown town) {
        this.text = text;
        this.town = town;
        token = "";
        place = 0;
        next();
    }

    int[] city() {
        return read(() -> {
            while (!token.isEmpty()) {
                part();
                sign(";");
            }
            return town.things();
        });
    }

    int[] centuries() {
        return read(() -> {
            while (!token.isEmpty()) {
                steps.add(step(0));
            }
            return counted;
        });
    }

    private static int[] read(IntSupplier reading) {
        try {
            reading.getAsInt();
            return new int[] {0, Plain.NONE};
        } catch (Fault fault) {
            return fault.told;
        }
    }

    // ---- tokens

    private static boolean isLetter(char c) {
        return c >= 'a' && c <= 'z';
    }

    private static boolean isDigit(char c) {
        return c >= '0' && c <= '9';
    }

    private void next() {
        place += token.length();
        while (place < text.length() && (text.charAt(place) == 32 || text.charAt(place) == 10)) {
            place++;
        }
        int end = place;
        while (end < text.length() && isLetter(text.charAt(end))) {
            end++;
        }
        while (end < text.length() && isDigit(text.charAt(end)) && !(end > place && isLetter(text.charAt(end - 1)))) {
            end++;
        }
        token = text.substring(place, end > place ? end : Math.min(text.length(), place + 1));
    }

    private boolean isWord() {
        return !token.isEmpty() && isLetter(token.charAt(0));
    }

    private boolean isNumber() {
        return !token.isEmpty() && isDigit(token.charAt(0)) && token.length() <= 4;
    }

    private boolean isToken() {
        return token.isEmpty() || isWord() || isNumber() || List.of(";", "<", ">", "=").contains(token);
    }

    private Fault fault(int kind) {
        return new Fault(isToken() ? kind : 1, place);
    }

    private void must(int kind, boolean good) {
        if (!good) {
            throw fault(kind);
        }
    }

    private boolean ifWord(String word) {
        boolean is = token.equals(word);
        if (is) {
            next();
        }
        return is;
    }

    private void sign(String sign) {
        must(2, token.equals(sign));
        next();
    }

    private String name() {
        must(2, isWord() && token.length() <= 8 && !NO_NAMES.contains(token));
        return token;
    }

    private void newName(List<String> names) {
        String name = name();
        must(3, !town.thingNames.contains(name) && !town.workNames.contains(name) && !town.voterNames.contains(name));
        names.add(name);
        next();
    }

    private int oldName(List<String> names, int butNot) {
        int k = names.indexOf(name());
        must(3, k >= 0);
        must(5, k != butNot);
        next();
        return k;
    }

    private int number(int least, int most) {
        must(2, isNumber());
        int number = Integer.parseInt(token);
        must(4, number >= least && number <= most);
        next();
        return number;
    }

    // ---- a city

    private void part() {
        String word = token;
        must(2, List.of("thing", "makes", "work", "voter", "hates", "ahead", "law").contains(word));
        must(5, !word.equals("law") || !lawTold);
        int have = word.equals("thing") ? town.things() - 12 : word.equals("makes") ? town.makes.size() - 16
            : word.equals("work") ? town.needs.size() - 6 : word.equals("voter") ? town.hates.size() - 6 : -1;
        must(6, have < 0);
        next();
        if (word.equals("thing")) {
            newName(town.thingNames);
            town.worth.add(ifWord("worth") ? number(0, 99) : 1);
            town.exempt |= ifWord("exempt") ? 1 << town.things() - 1 : 0;
        } else if (word.equals("makes")) {
            int t = oldName(town.thingNames, Plain.NONE);
            must(2, ifWord("from"));
            town.makes.add(new int[] {t, names(t)});
        } else if (word.equals("work")) {
            newName(town.workNames);
            must(2, ifWord("needs"));
            town.needs.add(names(Plain.NONE));
        } else if (word.equals("voter")) {
            newName(town.voterNames);
            town.hates.add(new int[12]);
        } else if (word.equals("hates")) {
            int v = oldName(town.voterNames, Plain.NONE);
            int t = oldName(town.thingNames, Plain.NONE);
            town.hates.get(v)[t] = number(0, 9);
        } else if (word.equals("ahead")) {
            int t = oldName(town.thingNames, Plain.NONE);
            town.ahead[oldName(town.thingNames, t)] |= 1 << t;
        } else {
            town.law = number(0, 2);
            lawTold = true;
        }
    }

    private int names(int butNot) {
        int set = 1 << oldName(town.thingNames, butNot);
        while (!token.equals(";")) {
            set |= 1 << oldName(town.thingNames, butNot);
        }
        return set;
    }

    // ---- centuries

    private Step step(int within) {
        Step step = new Step();
        step.word = token;
        must(2, List.of("year", "unmake", "remake", "spare", "joke", "when", "loop", "stop").contains(token));
        boolean holds = token.equals("when") || token.equals("loop");
        must(6, counted < 30);
        must(7, !holds || within < 3);
        counted++;
        next();
        if (step.word.equals("year")) {
            step.number = number(1, 9);
        } else if (step.word.equals("loop")) {
            step.number = number(1, 99);
        } else if (step.word.equals("when")) {
            test(step);
        } else if (!step.word.equals("joke") && !step.word.equals("stop")) {
            step.object = oldName(town.thingNames, Plain.NONE);
        }
        sign(";");
        while (holds && !token.equals("end")) {
            step.within.add(step(within + 1));
        }
        if (holds) {
            next();
            sign(";");
        }
        return step;
    }

    private void test(Step step) {
        step.test = token;
        must(2, List.of("stands", "done", "votes").contains(token));
        next();
        step.object = oldName(step.test.equals("done") ? town.workNames : town.thingNames, Plain.NONE);
        if (step.test.equals("votes")) {
            must(2, List.of("<", ">", "=").contains(token));
            step.sign = token.charAt(0);
            next();
            step.number = number(0, 99);
        }
    }
}
