import java.lang.reflect.InvocationTargetException;
import java.lang.reflect.Method;
import java.lang.reflect.Modifier;
import java.nio.charset.StandardCharsets;
import java.util.ArrayList;
import java.util.Arrays;
import java.util.List;
import java.util.Map;
import java.util.Random;
import java.util.TreeMap;

/**
 * All promises together: long runs of calls of all kinds, mixed by chance, each answered by the class and by Plain. What a call
 * leaves behind for the others (what is kept of stands and votes, the tape, marks, fractions) is met only so. A run ends with
 * the first wrong answer, and its calls are told.
 */
final class LongRunsTest {
    private static final int RUNS = 4000;
    private static final int CALLS = 512;
    private static final Map<String, Method> FACE = face();
    private static final List<String> NAMES = List.copyOf(FACE.keySet());
    private static final Map<String, Integer> REACHED = new TreeMap<>();

    private final Random r;
    private final Unmade it = new Unmade();
    private final Plain plain = new Plain();
    private final PlainTexts texts;
    private final List<String> told = new ArrayList<>();
    private final boolean large;
    /** Whether the years are near the last one. */
    private final boolean old;
    private int calls = 0;
    private boolean good = true;

    private LongRunsTest(long seed) {
        r = new Random(seed);
        large = seed % 25 == 0;
        old = seed % 10 == 1;
        texts = new PlainTexts(r, large ? 12 : 2 + r.nextInt(6));
    }

    public static void main(String[] args) throws Exception {
        int runs = args.length > 0 ? Integer.parseInt(args[0]) : RUNS;
        for (int seed = 0; seed < runs; seed++) {
            LongRunsTest test = new LongRunsTest(seed);
            test.run();
            if (seed % 100 == 2) {
                test.goOn();
            }
        }
        Kit.due("calls of the face", FACE.size(), 55);
        for (String name : NAMES) {
            Kit.due(name + " was answered often with STATUS 0", REACHED.getOrDefault(name, 0) >= 300 ? 1 : 0, 1);
        }
        if (args.length > 0) {
            System.out.println(REACHED);
        }
        Kit.end("LongRunsTest");
    }

    private static Map<String, Method> face() {
        Map<String, Method> face = new TreeMap<>();
        for (Method method : Unmade.class.getDeclaredMethods()) {
            if (Modifier.isPublic(method.getModifiers())) {
                face.put(method.getName(), method);
            }
        }
        return face;
    }

    static boolean isTruth(String name) {
        return FACE.get(name).getReturnType() == boolean.class;
    }

    // ---- a run

    private void run() throws Exception {
        for (int k = 0; k < 3 && plain.things() == 0; k++) {
            take("city", texts.city());
        }
        for (int k = 0; k < 4; k++) {
            ask("tray", k, r.nextInt(3), r.nextInt(16));
        }
        for (int k = 0; old && k < 100; k++) {
            ask("year", 99);
        }
        // a text takes 49 calls at most
        while (good && calls <= CALLS - 49) {
            int what = r.nextInt(60);
            if (what < 1) {
                take("city", texts.city());
            } else if (what < 3) {
                take("centuries", texts.centuries());
            } else {
                String name = NAMES.get(r.nextInt(NAMES.size()));
                boolean takes = name.equals("city") || name.equals("centuries") || name.equals("feed");
                if (!takes || r.nextInt(20) == 0) {
                    ask(name, arguments(name));
                }
            }
        }
    }

    /** What calls behind the 512th answer is free, but none of them may throw. */
    private void goOn() throws Exception {
        for (int k = 0; k < 5000; k++) {
            String name = NAMES.get(r.nextInt(NAMES.size()));
            long[] a = arguments(name);
            told.add(name + Arrays.toString(a));
            answer(name, a);
        }
    }

    private static boolean hasStatus(String name) {
        return !List.of("status", "fault", "feed", "top", "bottom").contains(name);
    }

    private void take(String name, String text) throws Exception {
        byte[] bytes = text.getBytes(StandardCharsets.ISO_8859_1);
        for (int i = 0; good && i < bytes.length; i += 20) {
            long[] ints = new long[5];
            for (int k = 0; k < 20; k++) {
                int b = i + k < bytes.length ? bytes[i + k] & 255 : ' ';
                ints[k / 4] = (int) ints[k / 4] << 8 | b;
            }
            ask("feed", ints);
        }
        // mostly all of it, else a part, too much, or what is left of blanks, too
        int n = r.nextInt(12) > 0 ? bytes.length : r.nextInt(bytes.length + 22);
        if (good) {
            ask(name, n);
            ask("fault", 0);
            ask("fault", 1);
        }
    }

    private void ask(String name, long... a) throws Exception {
        told.add(name + Arrays.toString(a));
        compare(name, answer(name, a), plain.call(name, a));
        boolean hasStatus = hasStatus(name);
        if (hasStatus) {
            compare("status", answer("status"), plain.call("status"));
        }
        if (name.equals("mean") || name.equals("aheadOdds")) {
            compare("top", answer("top"), plain.call("top"));
            compare("bottom", answer("bottom"), plain.call("bottom"));
        }
        long status = plain.call("status");
        REACHED.merge(hasStatus && status != 0 ? name + " refused by " + status : name, 1, Integer::sum);
    }

    private void compare(String name, long got, long want) {
        Kit.due(name + " behind " + (good && got != want ? told.toString() : ""), got, want);
        good &= got == want;
    }

    private long answer(String name, long... a) throws Exception {
        calls++;
        Method method = FACE.get(name);
        Class<?>[] types = method.getParameterTypes();
        Object[] values = new Object[types.length];
        for (int k = 0; k < types.length; k++) {
            values[k] = types[k] == long.class ? (Object) a[k] : types[k] == boolean.class ? (Object) (a[k] != 0) : (Object) (int) a[k];
        }
        try {
            Object got = method.invoke(it, values);
            return got instanceof Boolean ? ((Boolean) got ? 1 : 0) : ((Number) got).longValue();
        } catch (InvocationTargetException thrown) {
            throw new IllegalStateException("thrown behind " + told, thrown);
        }
    }

    // ---- arguments

    private long[] arguments(String name) {
        int many = FACE.get(name).getParameterCount();
        long[] a = new long[many];
        for (int k = 0; k < many; k++) {
            a[k] = argument(name, k);
        }
        return a;
    }

    private long argument(String name, int k) {
        if (FACE.get(name).getParameterTypes()[k] == boolean.class) {
            return r.nextInt(2);
        }
        switch (r.nextInt(24)) {
            case 0: return r.nextInt(2) == 0 ? Integer.MIN_VALUE : Integer.MAX_VALUE;
            case 1: return r.nextInt(16) - 2;
            case 2: return List.of(60, 61, 99, 100, 255, 300, 301, 4095, 4096, 9999, 10000).get(r.nextInt(11));
            default:
        }
        switch (name) {
            case "write": return k == 2 ? r.nextLong() >> r.nextInt(64) : r.nextInt(k == 0 ? 4 : 12);
            case "tray": return r.nextInt(k == 2 ? 14 : 4);
            case "pour": return r.nextInt(k == 0 || k == 2 ? 4 : 6);
            case "feed": return r.nextInt();
            case "many": return r.nextInt(12);
            case "year":
            case "later": return r.nextInt(4) == 0 ? r.nextInt(100) : r.nextInt(4);
            case "agenda": return few(setOfStanding(), 6);
            case "tells":
            case "sure": return setOfStanding();
            case "wasIt": return r.nextInt(3) == 0 ? set() : plain.fallingWith(thing());
            case "live": return r.nextInt(10000);
            case "mean": return k == 0 ? r.nextInt(10000) : 1 + r.nextInt(large ? 3 : 20);
            default: return small(name, k);
        }
    }

    private long small(String name, int k) {
        switch (name) {
            case "keep":
            case "keepSet": return k == 0 ? r.nextInt(4) : r.nextInt(13);
            case "game":
            case "firstMove": return k == 0 ? r.nextInt(4) : 1 + r.nextInt(large ? 3 : 4);
            case "needs":
            case "ends":
            case "strike":
            case "strikeSet":
            case "fault":
            case "rule":
            case "voteBy": return r.nextInt(3);
            case "sway": return r.nextInt(4);
            case "hate": return k == 0 ? r.nextInt(4) : thing();
            case "grudge": return k == 0 ? r.nextInt(4) : k == 1 ? thing() : r.nextInt(10);
            case "thing": return k == 0 ? thing() : r.nextInt(4);
            case "making": return r.nextInt(k == 0 ? 8 : 2);
            case "lived": return r.nextInt(5);
            default: return thing();
        }
    }

    private int thing() {
        return r.nextInt(Math.max(1, plain.things()));
    }

    private int set() {
        return r.nextInt(1 << plain.things());
    }

    /** Mostly a set of what stands. */
    private int setOfStanding() {
        return r.nextInt(8) == 0 ? set() : set() & plain.standing();
    }

    private static int few(int set, int many) {
        int left = set;
        while (Integer.bitCount(left) > many) {
            left &= left - 1;
        }
        return left;
    }
}
