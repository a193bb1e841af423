import java.util.ArrayList;
import java.util.List;
import java.util.Random;

/** Texts by chance for Plain and the class: mostly such as can be taken, some with a fault. */
final class PlainTexts {
    private static final String[] STRAY = {"thing", "worth", "exempt", "makes", "from", "work", "needs", "voter", "hates", "ahead", "law",
        "year", "unmake", "remake", "spare", "joke", "when", "stands", "done", "votes", "loop", "end", "stop", "tha", "nobody",
        "abcdefghi", "abcdefgh", ";", "<", ">", "=", "0", "3", "10", "99", "100", "9999", "12345", "A", "-", "\t", "\u00e9", "\0"};

    private final Random r;
    private final int most;
    private List<String> things = new ArrayList<>();
    private List<String> works = new ArrayList<>();

    PlainTexts(Random random, int mostThings) {
        r = random;
        most = mostThings;
    }

    private String oneOf(List<String> names) {
        return names.isEmpty() || r.nextInt(300) == 0 ? "nobody" : names.get(r.nextInt(names.size()));
    }

    /** Blanks, or none where none need be. */
    private String joined(List<String> tokens) {
        StringBuilder text = new StringBuilder();
        if (!tokens.isEmpty() && r.nextInt(4) == 0) {
            tokens.set(r.nextInt(tokens.size()), STRAY[r.nextInt(STRAY.length)]);
        }
        for (String token : tokens) {
            boolean letters = text.length() > 0 && Character.isLetterOrDigit(text.charAt(text.length() - 1))
                && Character.isLetterOrDigit(token.charAt(0));
            text.append(letters ? " " : r.nextInt(20) == 0 ? "\n " : "").append(token);
        }
        return text.toString();
    }

    private void put(List<String> tokens, String part) {
        tokens.addAll(List.of(part.split(" ")));
    }

    /** A city whose parts stand by kinds, but for a few that are told behind. */
    String city() {
        List<String> tokens = new ArrayList<>();
        things = new ArrayList<>();
        works = new ArrayList<>();
        int many = r.nextInt(12) == 0 ? r.nextInt(2) : 1 + r.nextInt(most);
        for (int t = 0; t < many; t++) {
            String name = "t" + (char) ('a' + t);
            things.add(name);
            put(tokens, "thing " + name + (r.nextInt(3) > 0 ? " worth " + r.nextInt(100) : "") + (r.nextInt(6) == 0 ? " exempt" : "") + " ;");
        }
        List<String> voters = new ArrayList<>();
        for (int v = r.nextInt(6); v > 0; v--) {
            voters.add("v" + (char) ('a' + v));
            put(tokens, "voter v" + (char) ('a' + v) + " ;");
        }
        for (int w = r.nextInt(5); w > 0; w--) {
            works.add("w" + (char) ('a' + w));
            put(tokens, "work w" + (char) ('a' + w) + " needs " + names(1 + r.nextInt(2), "") + ";");
        }
        if (r.nextInt(3) == 0) {
            put(tokens, "law " + r.nextInt(3) + " ;");
        }
        int aheads = many < 2 ? 0 : r.nextInt(8);
        for (int k = many < 2 ? 0 : r.nextInt(9) + many / 2; k > 0; k--) {
            // mostly from what is told ahead, so that rings are few
            int t = 1 + r.nextInt(many - 1);
            String from = r.nextInt(6) == 0 ? names(1 + r.nextInt(2), things.get(t)) : things.get(r.nextInt(t)) + " " + things.get(r.nextInt(t)) + " ";
            put(tokens, "makes " + things.get(t) + " from " + from + ";");
        }
        for (int k = voters.isEmpty() ? 0 : r.nextInt(9); k > 0; k--) {
            put(tokens, "hates " + oneOf(voters) + " " + oneOf(things) + " " + r.nextInt(10) + " ;");
        }
        for (int k = aheads; k > 0; k--) {
            int t = r.nextInt(many);
            int other = r.nextInt(3) > 0 ? Math.min(many - 1, t + 1) : r.nextInt(many);
            if (t != other) {
                put(tokens, "ahead " + things.get(t) + " " + things.get(other) + " ;");
            }
        }
        String text = joined(tokens);
        return text.length() <= 900 ? text : text.substring(0, 900);
    }

    /** So many names and a blank behind each, of things but one. */
    private String names(int many, String butNot) {
        StringBuilder names = new StringBuilder();
        for (int k = 0; k < many; k++) {
            String name = oneOf(things);
            names.append(name.equals(butNot) ? things.get(0).equals(butNot) ? things.get(1) : things.get(0) : name).append(' ');
        }
        return names.toString();
    }

    String centuries() {
        List<String> tokens = new ArrayList<>();
        steps(tokens, 1 + r.nextInt(r.nextInt(4) == 0 ? 12 : 5), 0);
        String text = joined(tokens);
        return text.length() <= 320 ? text : text.substring(0, 320);
    }

    private void steps(List<String> tokens, int many, int within) {
        for (int k = 0; k < many; k++) {
            switch (r.nextInt(within < 3 || r.nextInt(60) == 0 ? 9 : 6)) {
                case 0: put(tokens, "year " + (1 + r.nextInt(9)) + " ;"); break;
                case 1: put(tokens, "unmake " + oneOf(things) + " ;"); break;
                case 2: put(tokens, "remake " + oneOf(things) + " ;"); break;
                case 3: put(tokens, "spare " + oneOf(things) + " ;"); break;
                case 4: put(tokens, "joke ;"); break;
                case 5: put(tokens, r.nextInt(4) == 0 ? "stop ;" : "joke ;"); break;
                case 6:
                    put(tokens, "loop " + (1 + r.nextInt(r.nextInt(3) == 0 ? 99 : 4)) + " ;");
                    steps(tokens, r.nextInt(4), within + 1);
                    put(tokens, "end ;");
                    break;
                default:
                    put(tokens, "when " + test() + " ;");
                    steps(tokens, r.nextInt(4), within + 1);
                    put(tokens, "end ;");
            }
        }
    }

    private String test() {
        switch (r.nextInt(3)) {
            case 0: return "stands " + oneOf(things);
            case 1: return "done " + oneOf(works);
            default: return "votes " + oneOf(things) + " " + "<>=".charAt(r.nextInt(3)) + " " + r.nextInt(12);
        }
    }
}
