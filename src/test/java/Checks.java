import java.nio.charset.StandardCharsets;

/** What the tests share: counted comparisons, and ways to put a text on THE TAPE. */
final class Checks {
    private static int made = 0;
    private static int wrong = 0;

    private Checks() {
    }

    static void due(String what, long got, long want) {
        made++;
        if (got != want) {
            wrong++;
            if (wrong <= 40) {
                System.out.println(what + " answered " + got + ", due is " + want);
            }
        }
    }

    static void due(String what, boolean got, boolean want) {
        due(what, got ? 1 : 0, want ? 1 : 0);
    }

    static void due(String what, String got, String want) {
        made++;
        if (!got.equals(want)) {
            wrong++;
            System.out.println(what + " answered \"" + got + "\", due is \"" + want + "\"");
        }
    }

    static int wrongSoFar() {
        return wrong;
    }

    /** Prints what came of a test and ends it with exit code 1 if anything was wrong. */
    static void close(String test) {
        System.out.println(test + ": " + made + " comparisons, " + wrong + " wrong");
        if (wrong > 0 || made == 0) {
            System.exit(1);
        }
    }

    /** Puts exactly this text behind what stands on THE TAPE. */
    static void type(TermDraw x, String text) {
        byte[] bytes = text.getBytes(StandardCharsets.ISO_8859_1);
        int before = x.look(10);
        for (int i = 0; i < bytes.length; i += 20) {
            x.feed(number(bytes, i), number(bytes, i + 4), number(bytes, i + 8),
                    number(bytes, i + 12), number(bytes, i + 16));
            x.end(Math.min(before + bytes.length, x.look(10)));
        }
    }

    static int number(byte[] bytes, int from) {
        int number = 0;
        for (int i = from; i < from + 4; i++) {
            number = number << 8 | (i < bytes.length ? bytes[i] & 255 : ' ');
        }
        return number;
    }

    static int text(TermDraw x, int which, String text) {
        x.end(0);
        type(x, text);
        return x.text(which);
    }

    static int doc(TermDraw x, String text) {
        x.end(0);
        type(x, text);
        return x.doc();
    }

    static int find(TermDraw x, String text) {
        x.end(0);
        type(x, text);
        return x.find();
    }

    static String slate(TermDraw x) {
        StringBuilder all = new StringBuilder();
        for (int i = 0; i < x.slate(TermDraw.NONE); i++) {
            all.append((char) x.slate(i));
        }
        return all.toString();
    }

    static String term(TermDraw x, int t, boolean common) {
        int n = x.term(t, common);
        due("term(" + t + ") and THE SLATE's length", x.slate(TermDraw.NONE), n);
        return slate(x);
    }
}
