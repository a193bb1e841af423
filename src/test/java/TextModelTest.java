import java.util.HashMap;
import java.util.Map;
import java.util.Random;

/** Texts by chance, sound and spoiled ones, read by the class and by the model. */
final class TextModelTest {
    private static final String[] PIECES = {"thing", "worth", "exempt", "makes", "from", "work", "needs", "voter", "hates", "ahead",
        "law", "year", "unmake", "remake", "spare", "joke", "when", "stands", "done", "votes", "loop", "end", "stop", ";", "<", ">",
        "=", "0", "1", "9", "10", "99", "100", "0009", "12345", "ta", "tb", "wa", "va", "abcdefgh", "abcdefghi", "A", "-", "\n", " ",
        "thing ta;", "end;", "joke;", "loop 2;", "when stands ta;", "stop;".repeat(26)};
    private static final Map<String, Integer> SEEN = new HashMap<>();

    public static void main(String[] args) {
        for (int seed = 0; seed < 40000; seed++) {
            Random r = new Random(seed);
            Model m = Model.byChance(r, 1 + r.nextInt(12));
            Map<String, Character> names = new HashMap<>();
            Kit k = new Kit();
            if (m.text.length() > 880) {
                continue;
            }
            compare(k, spoiled(r, m.text.toString(), 900), names, true);
            if (names.isEmpty() || k.it.fault(0) != 0) {
                names.clear();
                compare(k, m.text.toString(), names, true);
            }
            String story = new ModelStory(r, m).text.toString();
            if (story.length() <= 290) {
                compare(k, spoiled(r, story, 300), names, false);
            }
        }
        for (int kind = 0; kind <= 7; kind++) {
            Kit.due("city fault " + kind + " came", SEEN.containsKey("city" + kind) || kind == 7 ? 1 : 0, 1);
            Kit.due("centuries fault " + kind + " came", SEEN.containsKey("centuries" + kind) || kind == 5 ? 1 : 0, 1);
        }
        Kit.end("TextModelTest");
    }

    private static String spoiled(Random r, String text, int most) {
        StringBuilder b = new StringBuilder(text);
        for (int k = r.nextInt(3); k > 0; k--) {
            int i = r.nextInt(b.length() + 1);
            if (r.nextInt(3) == 0) {
                b.delete(i, Math.min(b.length(), i + 1 + r.nextInt(6)));
            } else {
                String piece = PIECES[r.nextInt(PIECES.length)];
                b.insert(i, r.nextBoolean() ? " " + piece + " " : piece);
            }
        }
        return b.length() > most ? text : b.toString();
    }

    private static void compare(Kit k, String text, Map<String, Character> names, boolean isCity) {
        TextModel model = new TextModel(text, names);
        int kind = 0;
        int place = Unmade.NONE;
        try {
            if (isCity) {
                model.city();
            } else {
                model.centuries();
            }
        } catch (TextModel.Fault fault) {
            kind = fault.kind;
            place = fault.place;
        }
        SEEN.merge((isCity ? "city" : "centuries") + kind, 1, Integer::sum);
        int got = isCity ? k.city(text) : k.centuries(text);
        if (kind == 0) {
            k.fine(text, got, model.counted);
        } else {
            k.refused(text, got, 10);
        }
        Kit.due("fault of " + text, k.it.fault(0), kind);
        Kit.due("place of " + text, k.it.fault(1), place);
    }
}
