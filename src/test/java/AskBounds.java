/** Promises 12 to 30 of the document, sentence by sentence: what is asked, at the bounds of what there is. */
final class AskBounds {
    private static final int NONE = TermDraw.NONE;
    private static final int MIN = Integer.MIN_VALUE;
    private static final int MAX = Integer.MAX_VALUE;

    private AskBounds() {
    }

    static void run() {
        promise12Of();
        promise12None();
        promise13Word();
        promise13None();
        promise14KindAt();
        promise14None();
        promise15Match();
        promise15HowMany();
        promise15None();
        promise16Term();
        promise16None();
        promise17Byte();
        promise17NoneSuch();
        promise18Find();
        promise18None();
        promise19Told();
        promise19None();
        promise20Measure();
        promise20NoneSuch();
        promise21Share();
        promise22Rest();
        promise23Ranked();
        promise24Rank();
        promise25Longer();
        promise26Around();
        promise27Likely();
        promise27NoWord();
        promise28Head();
        promise29Cover();
        promise30Look();
        extremes();
    }

    private static void says(int promise, String words) {
        BoundsTest.says("" + promise, words);
    }

    private static void due(String what, long got, long want) {
        Checks.due(what, got, want);
    }

    /**
     * DOC 0: aa nn vv aa nn. zz; DOC 1 is empty; DOC 2: nn aa nns. MATCHES (0, 0) aa nn, (0, 3) aa nn,
     * (2, 1) aa nns and, with a PATTERN that takes it, aa nn vv.
     */
    private static TermDraw fixture() {
        TermDraw x = new TermDraw();
        Checks.text(x, Checks.LEXICON, "n:nn;a:aa;v:vv;");
        Checks.text(x, Checks.ENDINGS, "s=;");
        Checks.text(x, Checks.PATTERN, "anv?");
        Checks.doc(x, "aa nn vv aa nn. zz");
        Checks.doc(x, "..");
        Checks.doc(x, "nn aa nns");
        return x;
    }

    /** No TERMS, but DOCS. */
    private static TermDraw untermed() {
        TermDraw x = fixture();
        Checks.text(x, Checks.PATTERN, "");
        return x;
    }

    /** 240 unlike WORDS, each of one to five behind the other a TERM: 1180 of them. */
    private static TermDraw fullest() {
        TermDraw x = new TermDraw();
        Checks.doc(x, Checks.many(0, 150));
        Checks.doc(x, Checks.many(150, 90).trim());
        Checks.text(x, Checks.PATTERN, ".+");
        x.lengths(1, 5);
        x.wide(3);
        return x;
    }

    private static void slateIs(TermDraw x, String want) {
        Checks.due("THE SLATE", Checks.slate(x), want);
    }

    private static void promise12Of() {
        says(12, "Of a DOC what 0 WORDS, 1 SENTENCES that have WORDS, 2 MATCHES, 3 unlike TERMS.");
        TermDraw x = fixture();
        int[][] want = {{6, 2, 3, 2}, {0, 0, 0, 0}, {3, 1, 1, 1}};
        for (int doc = 0; doc < 3; doc++) {
            for (int what = 0; what < 4; what++) {
                due("of(" + doc + ", " + what + ")", x.of(doc, what), want[doc][what]);
            }
        }
        x = fullest();
        due("WORDS", x.of(0, 0), 150);
        due("WORDS", x.of(1, 0), 90);
        due("MATCHES", x.of(0, 2), 5 * 150 - 10);
        due("MATCHES", x.of(1, 2), 5 * 90 - 10);
        due("TERMS", x.of(0, 3), 5 * 150 - 10);
        x = new TermDraw();
        Checks.doc(x, "w.".repeat(240));
        due("SENTENCES", x.of(0, 1), 240);
        Checks.text(x, Checks.PATTERN, "x");
        x.lengths(1, 1);
        due("MATCHES", x.of(0, 2), 240);
        due("TERMS", x.of(0, 3), 1);
    }

    private static void promise12None() {
        says(12, "NONE: none such, another what.");
        TermDraw x = fixture();
        int[] docs = {-1, 3, 4, 8, MIN, MAX};
        for (int doc : docs) {
            for (int what = -1; what <= 4; what++) {
                due("of(" + doc + ", " + what + ")", x.of(doc, what), NONE);
            }
        }
        int[] whats = {-1, 4, 5, MIN, MAX};
        for (int what : whats) {
            due("of(2, " + what + ")", x.of(2, what), NONE);
        }
        x.drop(0);
        due("of(2, 0) then", x.of(2, 0), NONE);
        due("of(1, 0) then", x.of(1, 0), 3);
        due("of no DOCS", new TermDraw().of(0, 0), NONE);
    }

    private static void promise13Word() {
        says(13, "WORD i of a DOC comes on THE SLATE (its letters), base: its BASE: how many letters.");
        TermDraw x = fixture();
        due("the first", x.word(0, 0, false), 2);
        slateIs(x, "aa");
        due("the last, of another SENTENCE", x.word(0, 5, false), 2);
        slateIs(x, "zz");
        due("the last", x.word(2, 2, false), 3);
        slateIs(x, "nns");
        due("its BASE", x.word(2, 2, true), 2);
        slateIs(x, "nn");
        x = new TermDraw();
        Checks.text(x, Checks.LEXICON, "n:abcdefghij;");
        Checks.text(x, Checks.ENDINGS, "s=cdefghij;");
        Checks.doc(x, "abs b abcdefghij");
        due("the longest BASE", x.word(0, 0, true), 10);
        slateIs(x, "abcdefghij");
        due("the shortest", x.word(0, 1, true), 1);
        slateIs(x, "b");
        due("the longest", x.word(0, 2, false), 10);
        x = fullest();
        x.word(1, 89, false);
        slateIs(x, Checks.many(239, 1).trim());
        x.word(0, 149, true);
        slateIs(x, Checks.many(149, 1).trim());
    }

    private static void promise13None() {
        says(13, "NONE: none such.");
        TermDraw x = fixture();
        x.word(2, 2, false);
        int[][] wrong = {{0, 6}, {0, -1}, {1, 0}, {1, -1}, {2, 3}, {2, -1}, {3, 0}, {-1, 0}, {0, MAX}, {0, MIN},
            {MAX, 0}, {MIN, 0}, {MAX, MAX}, {MIN, MIN}};
        for (int[] w : wrong) {
            due("word(" + w[0] + ", " + w[1] + ")", x.word(w[0], w[1], false), NONE);
            due("word(" + w[0] + ", " + w[1] + "), base", x.word(w[0], w[1], true), NONE);
            slateIs(x, "nns");
        }
    }

    private static void promise14KindAt() {
        says(14, "KIND of WORD i of a DOC (its letter, as a byte).");
        TermDraw x = fixture();
        String[] want = {"anvanx", "", "nan"};
        for (int doc = 0; doc < 3; doc++) {
            for (int i = 0; i < want[doc].length(); i++) {
                due("kindAt(" + doc + ", " + i + ")", x.kindAt(doc, i), want[doc].charAt(i));
            }
        }
        due("n", x.kindAt(0, 1), 110);
        due("x", x.kindAt(0, 5), 120);
    }

    private static void promise14None() {
        says(14, "NONE: none such.");
        TermDraw x = fixture();
        int[][] wrong = {{0, 6}, {0, -1}, {1, 0}, {2, 3}, {3, 0}, {-1, 0}, {0, MAX}, {0, MIN}, {MAX, 0}, {MIN, 0}};
        for (int[] w : wrong) {
            due("kindAt(" + w[0] + ", " + w[1] + ")", x.kindAt(w[0], w[1]), NONE);
        }
    }

    private static void promise15Match() {
        says(15, "MATCH m (all DOCS) what 0 DOC, 1 place of its first WORD, 2 length, 3 TERM,"
                + " 4 1 if it is within a longer one;");
        TermDraw x = fixture();
        int[][] want = {{0, 0, 2, 0, 1}, {0, 0, 3, 1, 0}, {0, 3, 2, 0, 0}, {2, 1, 2, 0, 0}};
        for (int m = 0; m < want.length; m++) {
            for (int what = 0; what < 5; what++) {
                due("match(" + m + ", " + what + ")", x.match(m, what), want[m][what]);
            }
        }
        x = fullest();
        int[] last = {1, 89, 1, 1179, 1};
        for (int what = 0; what < 5; what++) {
            due("match(1179, " + what + ")", x.match(1179, what), last[what]);
        }
        due("the last of DOC 0", x.match(5 * 150 - 11, 1), 149);
        due("the first of DOC 1", x.match(5 * 150 - 10, 0), 1);
        due("the first of DOC 1", x.match(5 * 150 - 10, 1), 0);
    }

    private static void promise15HowMany() {
        says(15, "m NONE: how many (whatever what).");
        int[] whats = {0, 4, 5, -1, NONE, MIN, MAX};
        TermDraw x = fixture();
        TermDraw y = untermed();
        TermDraw z = fullest();
        for (int what : whats) {
            due("match(NONE, " + what + ")", x.match(NONE, what), 4);
            due("match(NONE, " + what + ") of none", y.match(NONE, what), 0);
            due("match(NONE, " + what + ") of many", z.match(NONE, what), 1180);
        }
    }

    private static void promise15None() {
        says(15, "NONE: none such, another what.");
        TermDraw x = fixture();
        TermDraw y = untermed();
        for (int what = -1; what <= 5; what++) {
            due("match(4, " + what + ")", x.match(4, what), NONE);
            due("match(-2, " + what + ")", x.match(-2, what), NONE);
            due("match(MAX, " + what + ")", x.match(MAX, what), NONE);
            due("match(MIN, " + what + ")", x.match(MIN, what), NONE);
            due("match(0, " + what + ") of none", y.match(0, what), NONE);
        }
        int[] whats = {-1, 5, MIN, MAX};
        for (int what : whats) {
            due("match(0, " + what + ")", x.match(0, what), NONE);
            due("match(3, " + what + ")", x.match(3, what), NONE);
        }
        due("match(1180, 0)", fullest().match(1180, 0), NONE);
    }

    private static void promise16Term() {
        says(16, "TERM t comes on THE SLATE, WORDS parted by blanks; common: its COMMON form: how many bytes.");
        TermDraw x = fixture();
        due("TERM 0", x.term(0, false), 5);
        slateIs(x, "aa nn");
        due("TERM 0, COMMON", x.term(0, true), 5);
        slateIs(x, "aa nn");
        due("TERM 1", x.term(1, true), 8);
        slateIs(x, "aa nn vv");
        x.drop(0);
        due("TERM 0", x.term(0, false), 5);
        slateIs(x, "aa nn");
        due("TERM 0, COMMON", x.term(0, true), 6);
        slateIs(x, "aa nns");
        x = new TermDraw();
        Checks.text(x, Checks.PATTERN, "x*");
        x.lengths(1, 5);
        Checks.doc(x, "abcdefghij abcdefghij abcdefghij abcdefghij abcdefghij. a");
        due("the shortest", x.term(0, false), 1);
        slateIs(x, "a");
        due("the longest", x.term(5, false), 54);
        slateIs(x, "abcdefghij abcdefghij abcdefghij abcdefghij abcdefghij");
        due("the longest, COMMON", x.term(5, true), 54);
        due("its last byte", x.slate(53), 'j');
        due("none behind it", x.slate(54), -2);
        x = fullest();
        due("the last", x.term(1179, false), 2);
        slateIs(x, Checks.many(239, 1).trim());
    }

    private static void promise16None() {
        says(16, "NONE: none such.");
        TermDraw x = fixture();
        x.term(1, false);
        int[] wrong = {-1, 2, -2, MIN, MAX};
        for (int t : wrong) {
            due("term(" + t + ")", x.term(t, false), NONE);
            due("term(" + t + "), COMMON", x.term(t, true), NONE);
            slateIs(x, "aa nn vv");
        }
        due("of none", untermed().term(0, false), NONE);
        due("of 1180", fullest().term(1180, false), NONE);
    }

    private static void promise17Byte() {
        says(17, "Byte i of THE SLATE; i NONE: how many.");
        TermDraw x = fixture();
        due("empty", x.slate(NONE), 0);
        x.word(0, 5, false);
        due("how many", x.slate(NONE), 2);
        due("byte 0", x.slate(0), 122);
        due("byte 1", x.slate(1), 122);
        x.term(1, false);
        String want = "aa nn vv";
        due("how many", x.slate(NONE), want.length());
        for (int i = 0; i < want.length(); i++) {
            due("byte " + i, x.slate(i), want.charAt(i));
        }
        x.word(0, 0, true);
        due("what stood there is gone", x.slate(NONE), 2);
        due("what stood there is gone", x.slate(2), -2);
    }

    private static void promise17NoneSuch() {
        says(17, "-2 if there is none such.");
        TermDraw x = fixture();
        due("of an empty one", x.slate(0), -2);
        x.term(1, false);
        int[] wrong = {-2, -3, 8, 9, 54, MIN, MAX};
        for (int i : wrong) {
            due("slate(" + i + ")", x.slate(i), -2);
        }
    }

    private static void found(TermDraw x, String text, int want) {
        due("find of <" + text + ">", Checks.find(x, text), want);
        due("tape", x.look(10), 0);
    }

    private static void promise18Find() {
        says(18, "The TERM whose row of BASES the WORDS on THE TAPE (empty then) have (their BASES).");
        TermDraw x = fixture();
        found(x, "aa nn", 0);
        found(x, "aa nns", 0);
        found(x, "aas nns", 0);
        found(x, "aa nn vv", 1);
        found(x, " aa\n\nnn  vvs ", 1);
        x = fullest();
        for (int t = 0; t < 1180; t += 131) {
            x.term(t, false);
            found(x, Checks.slate(x), t);
        }
        found(x, Checks.many(239, 1), 1179);
        found(x, Checks.many(235, 5), 1180 - 15 + 4);
        x = new TermDraw();
        Checks.text(x, Checks.PATTERN, ".*");
        Checks.doc(x, "abcdefghij abcdefghij abcdefghij abcdefghij abcdefghij");
        found(x, "abcdefghij ".repeat(5), 3);
        found(x, " ".repeat(546) + "abcdefghij ".repeat(5).trim(), 3);
    }

    private static void promise18None() {
        says(18, "NONE: none, or THE TAPE is no row of WORDS.");
        TermDraw x = fixture();
        String[] wrong = {"", " ", "\n", "aa", "nn aa", "aa nn vv aa", "aa nn vv aa nn", "aa nn vv aa nn zz", "aa zzz",
            "zzz", "aa nn.", ".", "aa.nn", "aa,nn", "%aa nn", "aa nn%", "aa nnnnnnnnnnn", "aaaaaaaaaaa nn", "AA NN", "aa nn;"};
        for (String text : wrong) {
            found(x, text, NONE);
        }
        found(x, "aa nn", 0);
        found(x, "aa nn " + " ".repeat(594), 0);
        found(x, "aa nn " + " ".repeat(593) + "a", NONE);
        found(x, "aa nn " + " ".repeat(593) + "%", NONE);
        found(untermed(), "aa nn", NONE);
        found(new TermDraw(), "aa", NONE);
        // five are as many as a TERM has; more have none
        TermDraw y = new TermDraw();
        Checks.text(y, Checks.PATTERN, ".*");
        Checks.doc(y, "w w w w w w w");
        for (int n = 0; n <= 8; n++) {
            found(y, "w ".repeat(n), n >= 2 && n <= 5 ? n - 2 : NONE);
        }
        found(y, "w ".repeat(300), NONE);
        due("a find is no change", y.look(9), 2);
        due("and no FAULT", y.fault(0), 0);
    }

    private static void promise19Told() {
        says(19, "Of a TERM what 0 COUNT, 1 FREE, 2 LONGER, 3 TAKEN, 4 FORMS, 5 IN GENERAL, 6 length,"
                + " 7 DOCS that have it (bits), 8 how many unlike BASES are AROUND it, 9 its first MATCH.");
        TermDraw x = fixture();
        Checks.text(x, Checks.GENERAL, "aas nn. aa nn vv");
        int[][] want = {{3, 2, 1, 1, 2, 2, 2, 5, 2, 0}, {1, 1, 0, 0, 1, 1, 3, 1, 1, 1}};
        for (int t = 0; t < 2; t++) {
            for (int what = 0; what < 10; what++) {
                due("told(" + t + ", " + what + ")", x.told(t, what), want[t][what]);
            }
        }
        TermDraw y = new TermDraw();
        Checks.text(y, Checks.PATTERN, "x");
        y.lengths(1, 1);
        for (int doc = 0; doc < 8; doc++) {
            Checks.doc(y, "w" + (doc % 2 == 0 ? " b" : " c"));
            due("bits of w", y.told(Checks.find(y, "w"), 7), (2 << doc) - 1);
        }
        due("bits of b", y.told(0, 7), 1 + 4 + 16 + 64);
        due("bits of c", y.told(1, 7), 2 + 8 + 32 + 128);
        due("first MATCH of c", y.told(1, 9), 3);
        due("first MATCH of w", y.told(2, 9), 0);
        y.drop(0);
        due("bits of b", y.told(0, 7), 2 + 8 + 32);
        due("bits of c", y.told(1, 7), 1 + 4 + 16 + 64);
        due("first MATCH of b", y.told(0, 9), 3);
        // its first MATCH is of the form that is the last by letters
        y = new TermDraw();
        Checks.text(y, Checks.LEXICON, "n:nn;");
        Checks.text(y, Checks.ENDINGS, "s=;");
        Checks.text(y, Checks.PATTERN, "n");
        y.lengths(1, 1);
        Checks.doc(y, "vv nns. nn. nn");
        due("COUNT", y.told(0, 0), 3);
        due("first MATCH", y.told(0, 9), 0);
        due("FORMS", y.told(0, 4), 2);
        // unlike BASES: at most six of one MATCH
        y = new TermDraw();
        Checks.text(y, Checks.LEXICON, "n:nn;");
        Checks.text(y, Checks.PATTERN, "nn");
        y.wide(3);
        Checks.doc(y, "b c d e nn nn f g h i");
        due("unlike BASES", y.told(0, 8), 6);
        Checks.doc(y, "b c d nn nn f g h");
        due("one more", y.told(0, 8), 7);
    }

    private static void promise19None() {
        says(19, "NONE: none such, another what; t NONE: how many TERMS (whatever what).");
        TermDraw x = fixture();
        TermDraw y = untermed();
        for (int what = -1; what <= 10; what++) {
            due("told(2, " + what + ")", x.told(2, what), NONE);
            due("told(-2, " + what + ")", x.told(-2, what), NONE);
            due("told(MIN, " + what + ")", x.told(MIN, what), NONE);
            due("told(MAX, " + what + ")", x.told(MAX, what), NONE);
            due("told(0, " + what + ") of none", y.told(0, what), NONE);
        }
        int[] whats = {-1, 10, 11, MIN, MAX};
        for (int what : whats) {
            due("told(0, " + what + ")", x.told(0, what), NONE);
            due("told(1, " + what + ")", x.told(1, what), NONE);
            due("told(NONE, " + what + ")", x.told(NONE, what), 2);
            due("told(NONE, " + what + ") of none", y.told(NONE, what), 0);
        }
        due("told(NONE, 0)", x.told(NONE, 0), 2);
        due("told(NONE, 0) of many", fullest().told(NONE, 0), 1180);
        due("told(1180, 0)", fullest().told(1180, 0), NONE);
        due("told(1179, 0)", fullest().told(1179, 0), 1);
    }

    private static void promise20Measure() {
        says(20, "A MEASURE of a TERM, above (under: below).");
        TermDraw x = fixture();
        Checks.text(x, Checks.GENERAL, "aas nn. aa nn vv");
        // WORTH 2 * (3 - 1), 3; ODD 3 * 6 by 3 * 10, 6 by 2 * 10
        // AROUND aa nn: vv (behind, ahead), nn (ahead); AROUND aa nn vv: aa; each LIKELY 1 by 2
        // NEAR 16 and 3 by 2, by 5; 12 and 1 by 2, by 5
        long[][] above = {{3, 2, 4, 3, 12, 7, 2}, {1, 1, 3, 3, 9, 5, 1}};
        long[][] below = {{1, 1, 1, 5, 5, 2, 1}, {1, 1, 1, 10, 10, 2, 1}};
        for (int t = 0; t < 2; t++) {
            for (int m = 0; m < 7; m++) {
                due("measure(" + t + ", " + m + ")", x.measure(t, m, false), above[t][m]);
                due("measure(" + t + ", " + m + "), below", x.measure(t, m, true), below[t][m]);
            }
        }
    }

    private static void promise20NoneSuch() {
        says(20, "Long.MIN_VALUE: none such.");
        TermDraw x = fixture();
        int[][] wrong = {{-1, 0}, {2, 0}, {MIN, 0}, {MAX, 0}, {0, -1}, {0, 7}, {0, MIN}, {0, MAX}, {-1, -1}, {2, 7}};
        for (int[] w : wrong) {
            due("measure(" + w[0] + ", " + w[1] + ")", x.measure(w[0], w[1], false), Long.MIN_VALUE);
            due("measure(" + w[0] + ", " + w[1] + "), below", x.measure(w[0], w[1], true), Long.MIN_VALUE);
        }
        for (int m = 0; m < 7; m++) {
            due("of none", untermed().measure(0, m, false), Long.MIN_VALUE);
            due("of none, below", untermed().measure(0, m, true), Long.MIN_VALUE);
        }
        due("of 1180", fullest().measure(1180, 0, false), Long.MIN_VALUE);
    }

    /** n WORDS w of KIND x, each a TERM's MATCH: WORTH times ODD as great as can be. */
    private static TermDraw great(int n, int general) {
        TermDraw x = new TermDraw();
        Checks.text(x, Checks.PATTERN, ".");
        x.lengths(1, 1);
        x.weight(1, 9);
        Checks.doc(x, "w ".repeat(n));
        Checks.text(x, Checks.GENERAL, "z ".repeat(general));
        return x;
    }

    /** One of COUNT 1 that LONGER ones of many COUNTS take off: WORTH below 0. */
    private static TermDraw below(int times, int weight) {
        TermDraw x = new TermDraw();
        Checks.text(x, Checks.LEXICON, "n:b;a:p q;v:d;");
        Checks.text(x, Checks.SAME, "b d;");
        Checks.text(x, Checks.PATTERN, "v|an");
        x.lengths(1, 2);
        x.weight(1, weight);
        Checks.doc(x, "p b.".repeat(times) + "q b. d");
        Checks.due("its first TERM", Checks.term(x, 0, false), "b");
        return x;
    }

    private static void bits(TermDraw x) {
        int terms = Math.min(x.told(NONE, 0), 6);
        for (int t = 0; t < terms; t++) {
            for (int m = 0; m < 7; m++) {
                long above = x.measure(t, m, false);
                long below = x.measure(t, m, true);
                String of = " of " + above + " by " + below;
                due("share" + of, x.share(t, m), Float.floatToIntBits((float) above / (float) below));
                due("rest" + of, x.rest(t, m), Double.doubleToLongBits((double) above / (double) below % 1.5));
            }
        }
    }

    private static void promise21Share() {
        says(21, "The same as a float: above by below, each cast to float, floatToIntBits of it; NONE: none such.");
        bits(fixture());
        for (int n = 1; n <= 240; n += n < 12 || n > 230 ? 1 : 19) {
            bits(great(n, 240));
            bits(great(n, 0));
            bits(great(n, n));
        }
        TermDraw x = great(239, 240);
        // 9 * 239 * 239 * 241 by 240
        due("above", x.measure(0, 4, false), 3L * 239 * 239 * 241);
        Checks.due("more than a float holds without error", x.measure(0, 4, false) > 1 << 24, true);
        due("share", x.share(0, 4), Float.floatToIntBits((float) (3L * 239 * 239 * 241) / 80f));
        due("1", fixture().share(1, 0), 0x3f800000);
        due("3", fixture().share(0, 0), 0x40400000);
        due("-1 by 2", below(2, 1).share(0, 2), 0xbf000000);
        due("0 is no -0", below(2, 0).share(0, 2), 0);
        x = fixture();
        int[][] wrong = {{-1, 0}, {2, 0}, {MIN, 0}, {MAX, 0}, {0, -1}, {0, 7}, {0, MIN}, {0, MAX}};
        for (int[] w : wrong) {
            due("share(" + w[0] + ", " + w[1] + ")", x.share(w[0], w[1]), NONE);
        }
        due("of none", untermed().share(0, 0), NONE);
    }

    private static void promise22Rest() {
        says(22, "What is left of a MEASURE (above by below, each cast to double, divided) by 1.5 (Java's %),"
                + " doubleToLongBits of it. NONE: none such.");
        for (int times = 1; times <= 12; times++) {
            for (int weight = 0; weight <= 9; weight++) {
                bits(below(times, weight));
            }
        }
        // just below 1.5, 1.5 itself, just above; 0; 3; below 0 likewise
        due("1", fixture().rest(1, 0), Double.doubleToLongBits(1));
        due("2", fixture().rest(0, 1), Double.doubleToLongBits(0.5));
        due("3", fixture().rest(0, 0), 0);
        due("-1 by 2", below(2, 1).rest(0, 2), Double.doubleToLongBits(-0.5));
        due("-1", below(2, 2).rest(0, 2), Double.doubleToLongBits(-1));
        due("-3 by 2", below(2, 3).rest(0, 2), Double.doubleToLongBits(-0.0));
        due("-2", below(2, 4).rest(0, 2), Double.doubleToLongBits(-0.5));
        due("-3", below(2, 6).rest(0, 2), Double.doubleToLongBits(-0.0));
        due("0", below(2, 0).rest(0, 2), 0);
        due("0", below(1, 9).rest(0, 2), 0);
        TermDraw x = fixture();
        int[][] wrong = {{-1, 0}, {2, 0}, {MIN, 0}, {MAX, 0}, {0, -1}, {0, 7}, {0, MIN}, {0, MAX}};
        for (int[] w : wrong) {
            due("rest(" + w[0] + ", " + w[1] + ")", x.rest(w[0], w[1]), NONE);
        }
        due("of none", untermed().rest(0, 0), NONE);
    }

    private static void promise23Ranked() {
        says(23, "The TERM at RANK r (0 on) by a MEASURE.");
        TermDraw x = fixture();
        int[][] want = {{0, 1}, {0, 1}, {0, 1}, {0, 1}, {0, 1}, {0, 1}, {0, 1}};
        for (int m = 0; m < 7; m++) {
            for (int r = 0; r < 2; r++) {
                due("ranked(" + m + ", " + r + ")", x.ranked(m, r), want[m][r]);
            }
        }
        x.weight(3, 9);
        due("by WORTH then", x.ranked(2, 0), 1);
        due("by WORTH then", x.ranked(2, 1), 0);
        due("by COUNT still", x.ranked(0, 0), 0);
        // whichever MEASURE is asked for first
        for (int first = 0; first < 7; first++) {
            TermDraw z = fixture();
            z.weight(3, 9);
            for (int k = 0; k < 7; k++) {
                int m = (first + 6 * k) % 7;
                int best = m == 2 || m == 5 ? 1 : 0;
                due("ranked(" + m + ", 0)", z.ranked(m, 0), best);
                due("ranked(" + m + ", 1)", z.ranked(m, 1), 1 - best);
            }
        }
        TermDraw y = fullest();
        for (int m = 0; m < 7; m++) {
            boolean[] seen = new boolean[1180];
            for (int r = 0; r < 1180; r++) {
                int t = y.ranked(m, r);
                Checks.due("each TERM once", t >= 0 && t < 1180 && !seen[t], true);
                if (t >= 0 && t < 1180) {
                    seen[t] = true;
                }
            }
            due("none behind the last", y.ranked(m, 1180), NONE);
        }
        says(23, "NONE: none such.");
        int[][] wrong = {{0, 2}, {0, -1}, {0, MIN}, {0, MAX}, {-1, 0}, {7, 0}, {MIN, 0}, {MAX, 0}, {7, 2}, {-1, -1}};
        for (int[] w : wrong) {
            due("ranked(" + w[0] + ", " + w[1] + ")", x.ranked(w[0], w[1]), NONE);
        }
        due("of none", untermed().ranked(0, 0), NONE);
    }

    private static void promise24Rank() {
        says(24, "RANK of a TERM by a MEASURE.");
        TermDraw x = fixture();
        for (int m = 0; m < 7; m++) {
            due("rank(0, " + m + ")", x.rank(0, m), 0);
            due("rank(1, " + m + ")", x.rank(1, m), 1);
        }
        x.weight(3, 9);
        due("by WORTH then", x.rank(0, 2), 1);
        due("by WORTH then", x.rank(1, 2), 0);
        TermDraw y = fullest();
        for (int m = 0; m < 7; m++) {
            for (int r = 0; r < 1180; r += r < 1178 ? 31 : 1) {
                due("rank by " + m, y.rank(y.ranked(m, r), m), r);
            }
            due("the last", y.rank(y.ranked(m, 1179), m), 1179);
        }
        says(24, "NONE: none such.");
        int[][] wrong = {{2, 0}, {-1, 0}, {MIN, 0}, {MAX, 0}, {0, -1}, {0, 7}, {0, MIN}, {0, MAX}, {2, 7}};
        for (int[] w : wrong) {
            due("rank(" + w[0] + ", " + w[1] + ")", x.rank(w[0], w[1]), NONE);
        }
        due("of none", untermed().rank(0, 0), NONE);
    }

    private static void promise25Longer() {
        says(25, "The i-th TERM (by numbers) of those LONGER than one; i NONE: how many.");
        TermDraw x = fixture();
        due("how many", x.longer(0, NONE), 1);
        due("the first", x.longer(0, 0), 1);
        due("how many", x.longer(1, NONE), 0);
        TermDraw y = new TermDraw();
        Checks.text(y, Checks.PATTERN, ".*");
        y.lengths(1, 5);
        Checks.doc(y, "w ".repeat(240));
        for (int t = 0; t < 5; t++) {
            due("how many LONGER than " + t, y.longer(t, NONE), 4 - t);
            for (int i = 0; i < 4 - t; i++) {
                due("longer(" + t + ", " + i + ")", y.longer(t, i), t + 1 + i);
            }
            due("longer(" + t + ", " + (4 - t) + ")", y.longer(t, 4 - t), NONE);
        }
        // one that 952 of all TERMS are LONGER than: w between unlike ones
        StringBuilder text = new StringBuilder();
        for (int i = 0; i < 119; i++) {
            text.append(Checks.many(i, 1)).append("w ");
        }
        TermDraw z = new TermDraw();
        Checks.text(z, Checks.PATTERN, ".*");
        z.lengths(1, 5);
        Checks.doc(z, text.toString());
        int w = Checks.find(z, "w");
        int many = z.longer(w, NONE);
        Checks.due("many are LONGER than w", many > 900, true);
        due("as told", z.told(w, 2), many);
        int before = -1;
        for (int i = 0; i < many; i++) {
            int t = z.longer(w, i);
            Checks.due("by numbers", t > before, true);
            before = t;
        }
        due("none behind the last", z.longer(w, many), NONE);
        says(25, "NONE: none such.");
        int[][] wrong = {{0, 1}, {0, -2}, {1, 0}, {2, 0}, {-1, 0}, {2, NONE}, {-1, NONE}, {MIN, NONE}, {MAX, NONE},
            {0, MIN}, {0, MAX}};
        for (int[] v : wrong) {
            due("longer(" + v[0] + ", " + v[1] + ")", x.longer(v[0], v[1]), NONE);
        }
        due("of none", untermed().longer(0, NONE), NONE);
    }

    private static void promise26Around() {
        says(26, "The i-th BASE AROUND a TERM (by letters) comes on THE SLATE: how often it is AROUND it.");
        TermDraw x = fixture();
        // vv behind the first, ahead of the second; nn ahead of the third
        due("around(0, 0)", x.around(0, 0), 1);
        slateIs(x, "nn");
        due("around(0, 1)", x.around(0, 1), 2);
        slateIs(x, "vv");
        due("around(1, 0)", x.around(1, 0), 1);
        slateIs(x, "aa");
        TermDraw y = new TermDraw();
        Checks.text(y, Checks.LEXICON, "n:nn;");
        Checks.text(y, Checks.PATTERN, "n");
        y.lengths(1, 1);
        y.wide(3);
        Checks.doc(y, "abcdefghij nn abcdefghij. ab nn abc a");
        String[] want = {"a", "ab", "abc", "abcdefghij"};
        int[] often = {1, 1, 1, 2};
        for (int i = 0; i < 4; i++) {
            due("around(0, " + i + ")", y.around(0, i), often[i]);
            slateIs(y, want[i]);
        }
        due("none more", y.around(0, 4), NONE);
        y = new TermDraw();
        Checks.text(y, Checks.PATTERN, "x");
        y.lengths(1, 1);
        y.wide(3);
        Checks.doc(y, "w ".repeat(240));
        due("each time", y.around(0, 0), 2 * (239 + 238 + 237));
        says(26, "NONE: none such.");
        x.around(0, 1);
        int[][] wrong = {{0, 2}, {0, -1}, {0, -2}, {1, 1}, {2, 0}, {-1, 0}, {MIN, 0}, {MAX, 0}, {0, MIN}, {0, MAX}};
        for (int[] v : wrong) {
            due("around(" + v[0] + ", " + v[1] + ")", x.around(v[0], v[1]), NONE);
            slateIs(x, "vv");
        }
        x.wide(0);
        due("nothing is AROUND", x.around(0, 0), NONE);
        due("of none", untermed().around(0, 0), NONE);
    }

    private static void likelyIs(TermDraw x, long above, long below) {
        due("likely of " + Checks.slate(x), x.likely(false), above);
        due("likely of " + Checks.slate(x) + ", below", x.likely(true), below);
    }

    private static void promise27Likely() {
        says(27, "LIKELY of the BASE on THE SLATE, as long as it is a WORD (of any), above (under: below):");
        TermDraw x = fixture();
        x.around(0, 1);
        likelyIs(x, 1, 2);
        x.around(1, 0);
        likelyIs(x, 1, 2);
        x.word(2, 0, true);
        likelyIs(x, 1, 2);
        x.wide(3);
        // AROUND aa nn: aa, nn, vv; AROUND aa nn vv: aa, nn
        x.word(0, 0, true);
        likelyIs(x, 1, 1);
        x.word(0, 2, true);
        likelyIs(x, 1, 2);
        says(27, "0 by 1 for one AROUND none, or without TERMS.");
        x.word(0, 5, true);
        likelyIs(x, 0, 1);
        // a form that is no BASE
        x.word(2, 2, false);
        slateIs(x, "nns");
        likelyIs(x, 0, 1);
        x.word(0, 0, true);
        x.wide(0);
        likelyIs(x, 0, 1);
        x.undo();
        likelyIs(x, 1, 1);
        x.word(0, 2, true);
        likelyIs(x, 1, 2);
        Checks.text(x, Checks.PATTERN, "");
        likelyIs(x, 0, 1);
        // a WORD that none of the TEXTS has any more
        x = fixture();
        x.word(0, 2, true);
        likelyIs(x, 1, 2);
        x.drop(0);
        likelyIs(x, 0, 1);
        x.drop(0);
        x.drop(0);
        likelyIs(x, 0, 1);
        x.undo();
        x.undo();
        x.undo();
        likelyIs(x, 1, 2);
        // a TERM of one WORD is a WORD on THE SLATE, too
        TermDraw y = new TermDraw();
        Checks.text(y, Checks.PATTERN, "x");
        y.lengths(1, 1);
        Checks.doc(y, "b abcdefghij c");
        y.term(0, false);
        slateIs(y, "abcdefghij");
        likelyIs(y, 2, 3);
        y.term(1, false);
        likelyIs(y, 1, 3);
    }

    private static void promise27NoWord() {
        says(27, "NONE: THE SLATE is no WORD.");
        TermDraw x = fixture();
        likelyIs(x, NONE, NONE);
        x.term(0, false);
        likelyIs(x, NONE, NONE);
        x.word(0, 0, false);
        x.term(9, false);
        Checks.due("a WORD still", x.likely(true) == NONE, false);
        x.term(1, true);
        likelyIs(x, NONE, NONE);
        likelyIs(untermed(), NONE, NONE);
        likelyIs(new TermDraw(), NONE, NONE);
        TermDraw y = new TermDraw();
        Checks.text(y, Checks.PATTERN, ".*");
        Checks.doc(y, "b c");
        y.term(0, false);
        slateIs(y, "b c");
        likelyIs(y, NONE, NONE);
    }

    private static void promise28Head() {
        says(28, "HEADS: unlike last WORDS of TERMS, by letters: how many (h NONE, whatever what);");
        TermDraw x = fixture();
        int[] whats = {0, 2, 3, -1, MIN, MAX};
        TermDraw y = untermed();
        TermDraw z = fullest();
        for (int what : whats) {
            due("head(NONE, " + what + ")", x.head(NONE, what), 2);
            due("head(NONE, " + what + ") of none", y.head(NONE, what), 0);
            due("head(NONE, " + what + ") of many", z.head(NONE, what), 240);
        }
        says(28, "how many TERMS have the h-th (what 0), their COUNTS together (1), the first of them (2).");
        int[][] want = {{1, 3, 0}, {1, 1, 1}};
        for (int h = 0; h < 2; h++) {
            for (int what = 0; what < 3; what++) {
                due("head(" + h + ", " + what + ")", x.head(h, what), want[h][what]);
            }
        }
        due("of the first", z.head(0, 0), 1);
        due("of the second", z.head(1, 0), 2);
        due("of the fifth", z.head(4, 0), 5);
        due("of the last", z.head(239, 0), 5);
        due("the first of the last", z.head(239, 2), Checks.find(z, Checks.many(235, 5)));
        due("of the first of DOC 1", z.head(150, 1), 1);
        TermDraw w = new TermDraw();
        Checks.text(w, Checks.PATTERN, ".*");
        Checks.text(w, Checks.SAME, "c d;");
        Checks.doc(w, "b d. c b. b c. b c c");
        // TERMS b c (3), b c c, c b, c c
        int[][] heads = {{1, 1, 2}, {3, 5, 0}};
        for (int h = 0; h < 2; h++) {
            for (int what = 0; what < 3; what++) {
                due("head(" + h + ", " + what + ")", w.head(h, what), heads[h][what]);
            }
        }
        says(28, "NONE: none such, another what.");
        int[] wrong = {-2, 2, 3, MIN, MAX};
        for (int h : wrong) {
            for (int what = -1; what <= 3; what++) {
                due("head(" + h + ", " + what + ")", x.head(h, what), NONE);
            }
        }
        int[] others = {-1, 3, 4, MIN, MAX};
        for (int what : others) {
            due("head(0, " + what + ")", x.head(0, what), NONE);
            due("head(1, " + what + ")", x.head(1, what), NONE);
        }
        due("of none", y.head(0, 0), NONE);
        due("of many", z.head(240, 0), NONE);
    }

    private static void promise29Cover() {
        says(29, "Of n TERMS (the first ones by a MEASURE) WORDS of all DOCS that lie in a MATCH of one of them"
                + " at least: how many.");
        TermDraw x = fixture();
        int[] want = {0, 6, 7};
        for (int m = 0; m < 7; m++) {
            for (int n = 0; n <= 2; n++) {
                due("cover(" + m + ", " + n + ")", x.cover(m, n), want[n]);
            }
        }
        x.weight(3, 9);
        due("by WORTH then", x.cover(2, 1), 3);
        due("by WORTH then", x.cover(2, 2), 7);
        due("by COUNT still", x.cover(0, 1), 6);
        TermDraw z = fullest();
        due("none", z.cover(0, 0), 0);
        due("one", z.cover(0, 1), 1);
        due("all", z.cover(0, 1180), 240);
        TermDraw y = new TermDraw();
        Checks.text(y, Checks.PATTERN, ".*");
        Checks.doc(y, "w ".repeat(240));
        for (int n = 1; n <= 4; n++) {
            due("one over the other", y.cover(0, n), 240);
        }
        due("no TERMS, none of them", untermed().cover(6, 0), 0);
        says(29, "NONE: no such n (0 .. how many TERMS), MEASURE.");
        int[][] wrong = {{0, -1}, {0, 3}, {0, 4}, {0, MIN}, {0, MAX}, {-1, 0}, {7, 0}, {-1, 1}, {7, 1}, {MIN, 0}, {MAX, 0}};
        for (int[] v : wrong) {
            due("cover(" + v[0] + ", " + v[1] + ")", x.cover(v[0], v[1]), NONE);
        }
        due("of none", untermed().cover(0, 1), NONE);
        due("of many", z.cover(0, 1181), NONE);
    }

    private static void promise30Look() {
        says(30, "0 WORDS of the LEXICON, 1 ENDINGS, 2 WORDS of SAME, 3 DOCS, 4 WORDS of all DOCS, 5 WORDS of GENERAL,"
                + " 6 LEAST, 7 MOST, 8 WIDE, 9 changes that can be undone, 10 bytes of THE TAPE.");
        TermDraw x = new TermDraw();
        Checks.text(x, Checks.LEXICON, "n:" + Checks.many(0, 80) + ";");
        Checks.text(x, Checks.ENDINGS, "a=;".repeat(8));
        Checks.text(x, Checks.SAME, "a b;".repeat(20));
        for (int doc = 0; doc < 8; doc++) {
            Checks.doc(x, "w ".repeat(30));
        }
        Checks.text(x, Checks.GENERAL, "w ".repeat(240));
        x.lengths(4, 4);
        x.wide(3);
        Checks.type(x, " ".repeat(600));
        int[] want = {80, 8, 40, 8, 240, 240, 4, 4, 3, 8, 600};
        for (int what = 0; what < want.length; what++) {
            due("look(" + what + ")", x.look(what), want[what]);
        }
        says(30, "NONE for another what.");
        int[] wrong = {-1, 11, 12, MIN, MAX};
        for (int what : wrong) {
            due("look(" + what + ")", x.look(what), NONE);
        }
    }

    /** Every call with the least and the greatest numbers there are: none such, whatever stands there. */
    private static void extremes() {
        Checks.about("the least and the greatest numbers: ");
        int[] numbers = {MIN, MIN + 1, -2, 1200, 65536, 1 << 24, MAX - 1, MAX};
        TermDraw[] objects = {new TermDraw(), fixture(), untermed(), fullest()};
        for (TermDraw x : objects) {
            for (int a : numbers) {
                for (int b : numbers) {
                    int[] none = {x.of(a, b), x.word(a, b, false), x.word(a, b, true), x.kindAt(a, b), x.match(a, b),
                        x.told(a, b), x.share(a, b), x.ranked(a, b), x.rank(a, b), x.longer(a, b), x.around(a, b),
                        x.head(a, b), x.cover(a, b), x.of(0, b), x.word(0, b, false), x.kindAt(0, b), x.match(0, b),
                        x.told(0, b), x.share(0, b), x.ranked(0, b), x.rank(0, b), x.longer(0, b), x.around(0, b),
                        x.head(0, b), x.cover(0, b), x.share(a, 0), x.ranked(a, 0), x.rank(a, 0), x.cover(a, 0),
                        x.longer(a, NONE), x.drop(a), x.look(a), x.fault(a), x.term(a, false), x.term(a, true)};
                    for (int i = 0; i < none.length; i++) {
                        due("call " + i + " with " + a + ", " + b, none[i], NONE);
                    }
                    due("measure", x.measure(a, b, false), Long.MIN_VALUE);
                    due("measure", x.measure(a, 0, true), Long.MIN_VALUE);
                    due("measure", x.measure(0, b, true), Long.MIN_VALUE);
                    due("rest", x.rest(a, b), NONE);
                    due("slate", x.slate(a), -2);
                    Checks.due("end", x.end(a), false);
                    Checks.due("lengths", x.lengths(a, b) || x.lengths(2, b) || x.lengths(a, 5), false);
                    Checks.due("weight", x.weight(a, b) || x.weight(1, b) || x.weight(a, 1), false);
                    Checks.due("wide", x.wide(a), false);
                    due("text", x.text(a), -2);
                }
            }
        }
    }
}
