import java.nio.charset.StandardCharsets;

/** What the tests share: counted comparisons, ways to put a text on THE TAPE, texts read and refused. */
final class Checks {
    static final int NONE = TermDraw.NONE;
    static final int LEXICON = 0;
    static final int ENDINGS = 1;
    static final int SAME = 2;
    static final int GENERAL = 3;
    static final int PATTERN = 4;
    static final int DOC = -1;

    private static final String ALPHABET = "abcdefghijklmnopqrstuvwxyz";

    private static int made = 0;
    private static int wrong = 0;
    private static String about = "";

    private Checks() {
    }

    /** What the comparisons from here on are about. */
    static void about(String what) {
        about = what;
    }

    static void due(String what, long got, long want) {
        made++;
        if (got != want) {
            wrong++;
            if (wrong <= 40) {
                System.out.println(about + what + " answered " + got + ", due is " + want);
            }
        }
    }

    static void due(String what, boolean got, boolean want) {
        due(what, got ? 1 : 0, want ? 1 : 0);
    }

    static void due(String what, String got, String want) {
        made++;
        if (!got.equals(want)) {
            wrong++;
            System.out.println(about + what + " answered \"" + got + "\", due is \"" + want + "\"");
        }
    }

    static int wrongSoFar() {
        return wrong;
    }

    /** Prints what came of a test and ends it with exit code 1 if anything was wrong. */
    static void close(String test) {
        System.out.println(test + ": " + made + " comparisons, " + wrong + " wrong");
        if (wrong > 0 || made == 0) {
            System.exit(1);
        }
    }

    /** Puts exactly this text behind what stands on THE TAPE. */
    static void type(TermDraw x, String text) {
        byte[] bytes = text.getBytes(StandardCharsets.ISO_8859_1);
        int before = x.look(10);
        for (int i = 0; i < bytes.length; i += 20) {
            x.feed(number(bytes, i), number(bytes, i + 4), number(bytes, i + 8),
                    number(bytes, i + 12), number(bytes, i + 16));
            x.end(Math.min(before + bytes.length, x.look(10)));
        }
    }

    static int number(byte[] bytes, int from) {
        int number = 0;
        for (int i = from; i < from + 4; i++) {
            number = number << 8 | (i < bytes.length ? bytes[i] & 255 : ' ');
        }
        return number;
    }

    static int text(TermDraw x, int which, String text) {
        x.end(0);
        type(x, text);
        return x.text(which);
    }

    static int doc(TermDraw x, String text) {
        x.end(0);
        type(x, text);
        return x.doc();
    }

    static int find(TermDraw x, String text) {
        x.end(0);
        type(x, text);
        return x.find();
    }

    static String slate(TermDraw x) {
        StringBuilder all = new StringBuilder();
        for (int i = 0; i < x.slate(TermDraw.NONE); i++) {
            all.append((char) x.slate(i));
        }
        return all.toString();
    }

    static String term(TermDraw x, int t, boolean common) {
        int n = x.term(t, common);
        due("term(" + t + ") and THE SLATE's length", x.slate(TermDraw.NONE), n);
        return slate(x);
    }

    private static String call(int which, String text) {
        return (which == DOC ? "doc" : "text(" + which + ")") + " of <" + text + "> ";
    }

    static int tell(TermDraw x, int which, String text) {
        return which == DOC ? doc(x, text) : text(x, which, text);
    }

    /** A TEXT with a FAULT on a new object: NONE, THE TAPE empty, nothing told by it. */
    static void faulty(int which, String text, int what, int place) {
        TermDraw x = new TermDraw();
        refused(x, which, text, what, place);
        int[] untold = {0, 1, 2, 3, 4, 5, 9};
        for (int look : untold) {
            due(call(which, text) + "look(" + look + ")", x.look(look), 0);
        }
    }

    static void refused(TermDraw x, int which, String text, int what, int place) {
        due(call(which, text), tell(x, which, text), NONE);
        due(call(which, text) + "fault(0)", x.fault(0), what);
        due(call(which, text) + "fault(1)", x.fault(1), place);
        due(call(which, text) + "tape", x.look(10), 0);
    }

    /** A TEXT without a FAULT on a new object. */
    static void read(int which, String text, int want) {
        TermDraw x = new TermDraw();
        taken(x, which, text, want);
        due(call(which, text) + "changes", x.look(9), 1);
    }

    static void taken(TermDraw x, int which, String text, int want) {
        due(call(which, text), tell(x, which, text), want);
        due(call(which, text) + "fault(0)", x.fault(0), 0);
        due(call(which, text) + "fault(1)", x.fault(1), NONE);
        due(call(which, text) + "tape", x.look(10), 0);
    }

    /** Unlike words of two letters, each with a blank behind it: n of them from one on. */
    static String many(int from, int n) {
        StringBuilder all = new StringBuilder();
        for (int i = from; i < from + n; i++) {
            all.append(ALPHABET.charAt(i / 26)).append(ALPHABET.charAt(i % 26)).append(' ');
        }
        return all.toString();
    }

    /** Words of one letter, some of them the last ones of their SENTENCES: two bytes each. */
    static String prose(int words) {
        StringBuilder all = new StringBuilder();
        for (int i = 0; i < words; i++) {
            all.append(ALPHABET.charAt(i % 26)).append(i % 7 == 0 ? "." : " ");
        }
        return all.toString();
    }
}
