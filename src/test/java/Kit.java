import java.nio.charset.StandardCharsets;

/** What all tests use: an object under test, texts fed to it, and answers compared with those that are due. */
final class Kit {
    private static int right = 0;
    private static int wrong = 0;

    Unmade it = new Unmade();

    /** Feeds a text, filled up with blanks to twenties: how many bytes it has. */
    int feed(String text) {
        byte[] bytes = text.getBytes(StandardCharsets.ISO_8859_1);
        for (int i = 0; i < bytes.length; i += 20) {
            int[] ints = new int[5];
            for (int k = 0; k < 20; k++) {
                int b = i + k < bytes.length ? bytes[i + k] & 255 : ' ';
                ints[k / 4] = ints[k / 4] << 8 | b;
            }
            it.feed(ints[0], ints[1], ints[2], ints[3], ints[4]);
        }
        return bytes.length;
    }

    int city(String text) {
        return it.city(feed(text));
    }

    int centuries(String text) {
        return it.centuries(feed(text));
    }

    /** A new object with a city that must be taken. */
    static Kit of(String text) {
        Kit kit = new Kit();
        kit.city(text);
        due("the city is taken: " + text, kit.it.status(), 0);
        return kit;
    }

    /** An answer with STATUS 0. */
    void fine(String call, long got, long want) {
        due(call, got, want);
        due("status of " + call, it.status(), 0);
    }

    void fine(String call, boolean got) {
        fine(call, got ? 1 : 0, 1);
    }

    /** An answer of NONE with a STATUS. */
    void refused(String call, long got, int status) {
        due(call, got, Unmade.NONE);
        due("status of " + call, it.status(), status);
    }

    void refused(String call, boolean got, int status) {
        due(call, got ? 1 : 0, 0);
        due("status of " + call, it.status(), status);
    }

    static void due(String what, long got, long want) {
        if (got == want) {
            right++;
        } else {
            wrong++;
            if (wrong <= 40) {
                System.out.println(what + " answered " + got + ", due is " + want);
            }
        }
    }

    static void end(String test) {
        System.out.println(test + ": " + right + " answers as due, " + wrong + " not");
        if (wrong != 0 || right == 0) {
            System.exit(1);
        }
    }
}
