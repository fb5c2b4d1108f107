/** The block "2. MATCH" of the document, sentence by sentence: MATCHES, TERMS, MEASURES at their bounds. */
final class MatchBounds {
    private static final int NONE = TermDraw.NONE;
    private static final int COUNT = 0;
    private static final int FREE = 1;
    private static final int WORTH = 2;
    private static final int ODD = 3;
    private static final int WORTH_ODD = 4;
    private static final int NEAR = 5;
    private static final int IN_DOCS = 6;

    private MatchBounds() {
    }

    static void run() {
        lengths();
        withinSentence();
        rowOfPattern();
        allStretches();
        order();
        termOfMatch();
        termNumbers();
        count();
        forms();
        common();
        free();
        longer();
        taken();
        weight();
        worth();
        inGeneral();
        odd();
        around();
        likely();
        near();
        measures();
        ranks();
        fractions();
        toldNow();
    }

    private static void says(String words) {
        BoundsTest.says("MATCH", words);
    }

    private static void due(String what, long got, long want) {
        Checks.due(what, got, want);
    }

    /** KINDS of nn, aa, vv, pp, dd, oo by their letters; a PATTERN, LEAST, MOST; DOCS. */
    private static TermDraw drawn(String pattern, int least, int most, String... docs) {
        TermDraw x = new TermDraw();
        Checks.text(x, Checks.LEXICON, "n:nn n;a:aa a;v:vv v;p:pp p;d:dd d;o:oo o;");
        x.lengths(least, most);
        due("KINDS of " + pattern, Checks.text(x, Checks.PATTERN, pattern), pattern.replaceAll("[^a-z.]", "").length());
        for (int i = 0; i < docs.length; i++) {
            due("doc of <" + docs[i] + ">", Checks.doc(x, docs[i]), i);
        }
        return x;
    }

    private static void terms(TermDraw x, String... want) {
        due("how many TERMS", x.told(NONE, 0), want.length);
        for (int t = 0; t < want.length; t++) {
            Checks.due("TERM " + t, Checks.term(x, t, false), want[t]);
        }
    }

    private static void told(TermDraw x, String term, int what, int want) {
        due("told(" + term + ", " + what + ")", x.told(Checks.find(x, term), what), want);
    }

    private static void measure(TermDraw x, String term, int measure, long above, long below) {
        int t = Checks.find(x, term);
        due("MEASURE " + measure + " of " + term, x.measure(t, measure, false), above);
        due("MEASURE " + measure + " of " + term + ", below", x.measure(t, measure, true), below);
    }

    private static void lengths() {
        says("2. MATCH: a stretch of LEAST to MOST WORDS (1 .. 5 each; 2 and 5 at first)");
        TermDraw x = new TermDraw();
        due("LEAST", x.look(6), 2);
        due("MOST", x.look(7), 5);
        Checks.text(x, Checks.PATTERN, ".*");
        // of n WORDS those of 2 to 5
        int[] want = {0, 0, 1, 3, 6, 10, 14, 18};
        for (int n = 0; n < want.length; n++) {
            Checks.doc(x, "w ".repeat(n));
            due("MATCHES of " + n + " WORDS", x.match(NONE, 0), want[n]);
            x.undo();
        }
        Checks.doc(x, "a b c d e f");
        for (int least = 1; least <= 5; least++) {
            for (int most = least; most <= 5; most++) {
                x.lengths(least, most);
                int all = 0;
                for (int n = least; n <= most; n++) {
                    all += 7 - n;
                }
                due("MATCHES of " + least + " to " + most, x.match(NONE, 0), all);
                due("the first of " + least, x.match(0, 2), least);
                due("and of " + most, x.match(most - least, 2), most);
                due("none longer", x.match(most - least + 1, 1), all > most - least + 1 ? 1 : NONE);
            }
        }
    }

    private static void withinSentence() {
        says("within one SENTENCE of a DOC");
        due("one", drawn(".*", 2, 5, "w x").match(NONE, 0), 1);
        due("two", drawn(".*", 2, 5, "w.x").match(NONE, 0), 0);
        due("two, one that has no WORD between", drawn(".*", 2, 5, "w..x").match(NONE, 0), 0);
        due("a line's end is no end of one", drawn(".*", 2, 5, "w\nx").match(NONE, 0), 1);
        due("two DOCS", drawn(".*", 2, 5, "w", "x").match(NONE, 0), 0);
        due("an empty DOC between", drawn(".*", 2, 5, "w", "", "x").match(NONE, 0), 0);
        TermDraw x = drawn(".*", 2, 5, "w", "y", "x");
        x.drop(1);
        due("what stood between is gone", x.match(NONE, 0), 0);
        x = drawn(".*", 2, 5, "w x y. w x. w", "x y");
        due("two and three", x.match(NONE, 0), 3 + 1 + 1);
    }

    private static void rowOfPattern() {
        says("whose KINDS are a row of the PATTERN (at first: (a|n)*n).");
        String[] docs = {"aa nn", "nn nn", "nn aa", "aa aa", "vv nn", "aa vv nn", "zz nn", "aa aa nn", "nn aa nn",
            "nn nn nn nn nn", "aa aa aa aa nn", "aa aa aa aa aa nn", "nn", "oo pp dd"};
        int[] want = {1, 1, 0, 0, 0, 0, 0, 2, 2, 10, 4, 4, 0, 0};
        for (int i = 0; i < docs.length; i++) {
            TermDraw x = new TermDraw();
            Checks.text(x, Checks.LEXICON, "n:nn;a:aa;v:vv;p:pp;d:dd;o:oo;");
            Checks.doc(x, docs[i]);
            due("MATCHES of <" + docs[i] + ">", x.match(NONE, 0), want[i]);
        }
        TermDraw x = new TermDraw();
        Checks.text(x, Checks.LEXICON, "n:nn;");
        Checks.doc(x, "nn");
        x.lengths(1, 5);
        due("(a|n)* may be none", x.match(NONE, 0), 1);
        due("how many KINDS are told, at first as then", Checks.text(x, Checks.PATTERN, "(a|n)*n"), 3);
        due("MATCHES", x.match(NONE, 0), 1);
    }

    private static void allStretches() {
        says("All such stretches are MATCHES, those within others, too;");
        TermDraw x = drawn("n+", 1, 5, "nn nn nn");
        due("MATCHES", x.match(NONE, 0), 6);
        x = drawn("nan", 3, 3, "nn aa nn aa nn");
        due("one over the other", x.match(NONE, 0), 2);
        x = drawn("(n|n|.n*|n+)*", 1, 2, "nn nn");
        due("one that is a row in many ways is one", x.match(NONE, 0), 3);
    }

    private static void order() {
        says("in the order of DOCS, places of their first WORD, lengths.");
        TermDraw x = drawn("n|nn|nnn", 1, 5, "nn nn vv", "vv. nn nn nn");
        int[][] want = {{0, 0, 1}, {0, 0, 2}, {0, 1, 1}, {1, 1, 1}, {1, 1, 2}, {1, 1, 3}, {1, 2, 1}, {1, 2, 2}, {1, 3, 1}};
        due("MATCHES", x.match(NONE, 0), want.length);
        for (int m = 0; m < want.length; m++) {
            for (int what = 0; what < 3; what++) {
                due("match(" + m + ", " + what + ")", x.match(m, what), want[m][what]);
            }
        }
    }

    private static void termOfMatch() {
        says("TERM of a MATCH: the row of BASES of its WORDS.");
        TermDraw x = drawn("n+", 1, 2, "nns nn mm nns");
        Checks.text(x, Checks.ENDINGS, "s=;");
        Checks.text(x, Checks.SAME, "nn mm;");
        terms(x, "nn", "nn nn");
        for (int m = 0; m < 7; m++) {
            due("TERM of MATCH " + m, x.match(m, 3), x.match(m, 2) - 1);
        }
        Checks.text(x, Checks.SAME, "");
        terms(x, "nn", "nn nn");
        due("MATCHES without mm", x.match(NONE, 0), 4);
    }

    private static void termNumbers() {
        says("TERMS are numbered from 0 on by letters: by their first WORD (as a lexicon stands),"
                + " then by the second one and so on (one that is the beginning of another one ahead of it).");
        terms(drawn(".", 1, 1, "b ab abc a abcdefghij abcdefghii z aa zz"),
                "a", "aa", "ab", "abc", "abcdefghii", "abcdefghij", "b", "z", "zz");
        terms(drawn(".*", 1, 2, "b a. a b. a"), "a", "a b", "b", "b a");
        terms(drawn("..", 2, 2, "ab z. abc a. ab a. a zz. a z"), "a z", "a zz", "ab a", "ab z", "abc a");
        terms(drawn(".*", 3, 5, "a b c. a b c d. a b c d e. a b b z. b"),
                "a b b", "a b b z", "a b c", "a b c d", "a b c d e", "b b z", "b c d", "b c d e", "c d e");
        TermDraw x = drawn(".", 1, 1, "b c");
        Checks.doc(x, "a");
        terms(x, "a", "b", "c");
        x.drop(0);
        terms(x, "a");
        due("no TERMS", drawn(".", 1, 1, "").told(NONE, 0), 0);
    }

    private static void count() {
        says("COUNT of a TERM: its MATCHES.");
        TermDraw x = drawn(".*", 1, 5, "w w w", "w. w");
        told(x, "w", 0, 5);
        told(x, "w w", 0, 2);
        told(x, "w w w", 0, 1);
        x = drawn(".", 1, 1, Checks.prose(240).replaceAll("[a-z]", "w"));
        told(x, "w", 0, 240);
    }

    private static void forms() {
        says("FORMS: unlike rows of WORDS that its MATCHES are;");
        TermDraw x = drawn("..", 2, 2, "nn vv. nn vv");
        Checks.text(x, Checks.ENDINGS, "s=;");
        told(x, "nn vv", 4, 1);
        Checks.doc(x, "nns vv");
        told(x, "nn vv", 4, 2);
        Checks.doc(x, "nns vv");
        told(x, "nn vv", 4, 2);
        Checks.doc(x, "nns vvs. nn vvs");
        told(x, "nn vv", 4, 4);
        x.drop(0);
        told(x, "nn vv", 4, 3);
    }

    private static void commonIs(TermDraw x, String want) {
        Checks.due("COMMON", Checks.term(x, 0, true), want);
    }

    private static void common() {
        says("COMMON: the one with most MATCHES, of equal ones the first by letters likewise.");
        TermDraw x = drawn("..", 2, 2, "nns vv");
        Checks.text(x, Checks.ENDINGS, "s=;es=;");
        commonIs(x, "nns vv");
        Checks.doc(x, "nns vvs");
        commonIs(x, "nns vv");
        Checks.doc(x, "nnes vv");
        commonIs(x, "nnes vv");
        Checks.doc(x, "nn vvs");
        commonIs(x, "nn vvs");
        Checks.doc(x, "nns vvs");
        commonIs(x, "nns vvs");
        Checks.doc(x, "nn vvs");
        commonIs(x, "nn vvs");
        x.undo();
        commonIs(x, "nns vvs");
        Checks.due("its row of BASES is no form", Checks.term(x, 0, false), "nn vv");
    }

    private static void within(TermDraw x, int... want) {
        due("MATCHES", x.match(NONE, 0), want.length);
        for (int m = 0; m < want.length; m++) {
            due("MATCH " + m + " is within a longer one", x.match(m, 4), want[m]);
        }
    }

    private static void free() {
        says("FREE: MATCHES of it that are within no longer MATCH (of any TERM).");
        // at the beginning, in the middle, at the end of a longer one
        within(drawn("av|avnv", 1, 5, "aa vv nn vv"), 1, 0);
        within(drawn("vn|avnv", 1, 5, "aa vv nn vv"), 0, 1);
        within(drawn("nv|avnv", 1, 5, "aa vv nn vv"), 0, 1);
        // only in part, at its beginning and at its end
        within(drawn("pa|avn", 1, 5, "pp aa vv nn"), 0, 0);
        within(drawn("no|avn", 1, 5, "aa vv nn oo"), 0, 0);
        within(drawn("np|avn", 1, 5, "aa vv nn pp"), 0, 0);
        // just ahead, just behind; of one length
        within(drawn("pp|avn", 1, 5, "pp pp aa vv nn"), 0, 0);
        within(drawn("pp|avn", 1, 5, "aa vv nn pp pp"), 0, 0);
        within(drawn("..", 1, 5, "aa vv nn"), 0, 0);
        // a longer one that has it, behind one that has not
        within(drawn("n|na|anan|v", 1, 5, "nn aa nn aa nn"), 1, 0, 0, 1, 1, 1);
        within(drawn(".*", 1, 5, "aa. aa vv"), 0, 1, 0, 1);
        TermDraw x = drawn(".*", 1, 5, "aa. aa vv. aa");
        told(x, "aa", 1, 2);
        told(x, "vv", 1, 0);
        told(x, "aa vv", 1, 1);
        x.lengths(1, 1);
        told(x, "aa", 1, 3);
        told(x, "vv", 1, 1);
    }

    private static void longerOf(TermDraw x, String term, String... want) {
        int t = Checks.find(x, term);
        due("LONGER than " + term, x.told(t, 2), want.length);
        due("longer(" + term + ", NONE)", x.longer(t, NONE), want.length);
        for (int i = 0; i < want.length; i++) {
            due("longer(" + term + ", " + i + ")", x.longer(t, i), Checks.find(x, want[i]));
        }
        due("longer(" + term + "), none more", x.longer(t, want.length), NONE);
    }

    private static void longer() {
        says("LONGER: TERMS of more WORDS that have its row in them one behind the other (once or more);");
        TermDraw x = drawn("a?na?va?|vn|nn", 1, 5, "nn vv. nn aa vv. aa nn vv. nn vv aa. aa nn vv aa. vv nn. nn nn");
        longerOf(x, "nn vv", "aa nn vv", "aa nn vv aa", "nn vv aa");
        longerOf(x, "aa nn vv", "aa nn vv aa");
        longerOf(x, "aa nn vv aa");
        longerOf(x, "nn aa vv");
        longerOf(x, "vv nn");
        longerOf(x, "nn nn");
        x = drawn("n+", 1, 5, "nn nn nn nn nn");
        longerOf(x, "nn", "nn nn", "nn nn nn", "nn nn nn nn", "nn nn nn nn nn");
        longerOf(x, "nn nn nn nn", "nn nn nn nn nn");
        longerOf(x, "nn nn nn nn nn");
        // one that stands nowhere within a MATCH of it has it LONGER all the same
        x = drawn("vn|avn", 1, 5, "aa vv nn. vv nn");
        longerOf(x, "vv nn", "aa vv nn");
        // by BASES, not by WORDS
        x = drawn("an|anv", 1, 5, "aa nn. aas nns vv");
        Checks.text(x, Checks.ENDINGS, "s=;");
        longerOf(x, "aa nn", "aa nn vv");
    }

    private static void taken() {
        says("TAKEN: their COUNTS together.");
        TermDraw x = drawn("nv|anv|nva", 1, 5, "nn vv. aa nn vv. aa nn vv. nn vv aa. nn vv");
        told(x, "nn vv", 3, 3);
        told(x, "aa nn vv", 3, 0);
        // each once, however often it has the row
        x = drawn("n+", 1, 5, "nn nn nn");
        told(x, "nn", 3, 2 + 1);
        told(x, "nn nn", 3, 1);
        told(x, "nn nn nn", 3, 0);
    }

    private static void weight() {
        says("WEIGHT of a length 1 .. 5: 0 .. 9 (at first the length).");
        for (int n = 1; n <= 5; n++) {
            TermDraw x = drawn(".*", n, n, "b c d e f".substring(0, 2 * n - 1));
            due("WORTH of one of length " + n, x.measure(0, WORTH, false), n);
            due("as it is", x.weight(n, n) ? 1 : 0, 0);
            for (int v = -1; v <= 10; v++) {
                boolean can = v >= 0 && v <= 9;
                due("weight(" + n + ", " + v + ")", x.weight(n, v) ? 1 : 0, can && v != n ? 1 : 0);
                due("WORTH then", x.measure(0, WORTH, false), can ? v : n);
                x.weight(n, n);
            }
        }
        TermDraw x = drawn(".", 1, 1, "b");
        due("weight(0, 1)", x.weight(0, 1) ? 1 : 0, 0);
        due("weight(6, 1)", x.weight(6, 1) ? 1 : 0, 0);
    }

    private static void worth() {
        says("WORTH: WEIGHT times (COUNT less TAKEN by how many LONGER there are); WEIGHT times COUNT without.");
        // COUNT 4; LONGER 2, TAKEN 3; 2 * (4 - 3/2)
        TermDraw x = drawn("nv|anv|nva", 1, 5, "nn vv. aa nn vv. aa nn vv. nn vv aa");
        measure(x, "nn vv", WORTH, 5, 1);
        measure(x, "aa nn vv", WORTH, 6, 1);
        measure(x, "nn vv aa", WORTH, 3, 1);
        x.weight(2, 1);
        measure(x, "nn vv", WORTH, 5, 2);
        x.weight(2, 9);
        measure(x, "nn vv", WORTH, 45, 2);
        x.weight(2, 0);
        measure(x, "nn vv", WORTH, 0, 1);
        // COUNT as TAKEN by LONGER: 0; one more: above; one less: below 0
        x = drawn("an|anv", 1, 5, "aa nn vv");
        measure(x, "aa nn", WORTH, 0, 1);
        Checks.doc(x, "aa nn");
        measure(x, "aa nn", WORTH, 2, 1);
        x = drawn("n|v|pn", 1, 5, "pp nn");
        Checks.text(x, Checks.SAME, "nn zz;");
        measure(x, "nn", WORTH, 0, 1);
        // pn twice, one COUNT of nn: the other is zz, a v
        x = drawn("v|pn", 1, 5, "pp nn. pp nn. zz");
        Checks.text(x, Checks.LEXICON, "v:zz;");
        Checks.text(x, Checks.SAME, "nn zz;");
        told(x, "nn", 0, 1);
        told(x, "nn", 3, 2);
        measure(x, "nn", WORTH, -1, 1);
    }

    private static void general(TermDraw x, String text, String term, int want) {
        Checks.text(x, Checks.GENERAL, text);
        told(x, term, 5, want);
    }

    private static void inGeneral() {
        says("IN GENERAL: how often its row of BASES stands in a SENTENCE of GENERAL (BASES of WORDS there).");
        TermDraw x = drawn(".*", 1, 5, "nn vv. w w. b c d e f");
        Checks.text(x, Checks.ENDINGS, "s=;");
        general(x, "", "nn vv", 0);
        general(x, "nn vv", "nn vv", 1);
        general(x, "nn.vv", "nn vv", 0);
        general(x, "nn zz vv", "nn vv", 0);
        general(x, "vv nn", "nn vv", 0);
        general(x, "nns vvs", "nn vv", 1);
        general(x, "zz nn vv zz", "nn vv", 1);
        general(x, "nn vv nn vv. nn vv", "nn vv", 3);
        general(x, "nn nn", "nn", 2);
        general(x, "w w w w", "w w", 3);
        general(x, "w w. w w", "w w", 2);
        general(x, "b c d e f", "b c d e f", 1);
        general(x, "a b c d e f g", "b c d e f", 1);
        general(x, "b c d e. f", "b c d e f", 0);
        general(x, "w ".repeat(240), "w w", 239);
        general(x, "w ".repeat(240), "w", 240);
        // KINDS of GENERAL are nothing to it
        x = drawn("nn", 2, 2, "nn nn");
        general(x, "nn nn", "nn nn", 1);
    }

    private static void odd() {
        says("ODD: COUNT times (WORDS of GENERAL and 1), by (IN GENERAL and 1) times (WORDS of all DOCS and 1).");
        TermDraw x = drawn("..", 2, 2, "nn vv");
        measure(x, "nn vv", ODD, 1, 3);
        Checks.text(x, Checks.GENERAL, "b c d e");
        measure(x, "nn vv", ODD, 5, 3);
        Checks.text(x, Checks.GENERAL, "nn vv c d");
        measure(x, "nn vv", ODD, 5, 6);
        Checks.doc(x, "nn vv. w");
        measure(x, "nn vv", ODD, 5, 6);
        Checks.doc(x, "w");
        measure(x, "nn vv", ODD, 5, 7);
        x = drawn(".", 1, 1, "w ".repeat(240));
        Checks.text(x, Checks.GENERAL, "w ".repeat(240));
        measure(x, "w", ODD, 240, 241);
        Checks.text(x, Checks.GENERAL, "z ".repeat(240));
        measure(x, "w", ODD, 240, 1);
        Checks.text(x, Checks.GENERAL, "");
        measure(x, "w", ODD, 240, 241);
    }

    private static void aroundIs(TermDraw x, String term, String... want) {
        int t = Checks.find(x, term);
        due("unlike BASES AROUND " + term, x.told(t, 8), want.length);
        for (int i = 0; i < want.length; i++) {
            String[] part = want[i].split(" ");
            due("how often " + part[0] + " is AROUND " + term, x.around(t, i), Integer.parseInt(part[1]));
            Checks.due("BASE AROUND " + term, Checks.slate(x), part[0]);
        }
        due("none more AROUND " + term, x.around(t, want.length), NONE);
    }

    private static void around() {
        says("AROUND a TERM: of each of its MATCHES the BASES of up to WIDE (0 .. 3; 1 at first) WORDS"
                + " ahead of it and behind it, in its SENTENCE.");
        TermDraw x = drawn("nn", 2, 2, "e f g h nn nn i j k l");
        due("WIDE", x.look(8), 1);
        aroundIs(x, "nn nn", "h 1", "i 1");
        x.wide(0);
        aroundIs(x, "nn nn");
        x.wide(2);
        aroundIs(x, "nn nn", "g 1", "h 1", "i 1", "j 1");
        x.wide(3);
        aroundIs(x, "nn nn", "f 1", "g 1", "h 1", "i 1", "j 1", "k 1");
        due("wide(4)", x.wide(4) ? 1 : 0, 0);
        // at the bounds of a SENTENCE, of a DOC
        x = drawn("nn", 2, 2, "e.nn nn", "nn nn", "nn nn. f", "g nn nn.h");
        aroundIs(x, "nn nn", "g 1");
        x.wide(3);
        aroundIs(x, "nn nn", "g 1");
        Checks.doc(x, "e. f g nn nn h. i");
        aroundIs(x, "nn nn", "f 1", "g 2", "h 1");
        // each of its MATCHES, its own WORDS too where another one of it lies
        x = drawn("nn", 2, 2, "nn nn nn");
        aroundIs(x, "nn nn", "nn 2");
        x.wide(3);
        aroundIs(x, "nn nn", "nn 2");
        // BASES
        x = drawn("nn", 2, 2, "es nn nn e nn nn es");
        aroundIs(x, "nn nn", "e 2", "es 2");
        Checks.text(x, Checks.SAME, "e es;");
        aroundIs(x, "nn nn", "e 4");
    }

    private static void likelyIs(TermDraw x, String word, long above, long below) {
        Checks.doc(x, word);
        x.word(x.look(3) - 1, 0, false);
        x.undo();
        due("likely of " + word, x.likely(false), above);
        due("likely of " + word + ", below", x.likely(true), below);
    }

    private static void likely() {
        says("LIKELY of a BASE: of how many TERMS it is AROUND, by how many TERMS there are.");
        TermDraw x = drawn("nv|pd|oo", 2, 2, "e nn vv e pp dd f. e oo oo. e nn vv e");
        likelyIs(x, "e", 1, 1);
        likelyIs(x, "f", 1, 3);
        likelyIs(x, "nn", 0, 1);
        likelyIs(x, "zz", 0, 1);
        x.wide(2);
        likelyIs(x, "vv", 1, 3);
        likelyIs(x, "pp", 1, 3);
        x.wide(0);
        likelyIs(x, "e", 0, 1);
        Checks.text(x, Checks.PATTERN, "");
        likelyIs(x, "e", 0, 1);
        x = drawn("nv|pd|oo|no", 2, 2, "e nn vv. e pp dd. oo oo. nn oo");
        likelyIs(x, "e", 1, 2);
    }

    private static void near() {
        says("NEAR of a TERM: 4 times WORTH and, of all that is AROUND it (each time), LIKELY together, by 5.");
        // two TERMS; LIKELY of e 1, of f 1/2
        TermDraw x = drawn("nv|pd", 2, 2, "e nn vv e pp dd f");
        measure(x, "nn vv", NEAR, (4 * 2 + 2) / 5, 1);
        measure(x, "pp dd", NEAR, 2 * (4 * 2) + 3, 10);
        x.wide(0);
        measure(x, "pp dd", NEAR, 8, 5);
        x.weight(2, 0);
        measure(x, "pp dd", NEAR, 0, 1);
        x.wide(1);
        measure(x, "pp dd", NEAR, 3, 10);
        measure(x, "nn vv", NEAR, 2, 5);
        // each time
        Checks.doc(x, "nn vv e");
        measure(x, "nn vv", NEAR, 3, 5);
        // below 0: WORTH -1, nothing AROUND
        x = drawn("v|pn", 1, 5, "pp nn. pp nn. zz");
        Checks.text(x, Checks.LEXICON, "v:zz;");
        Checks.text(x, Checks.SAME, "nn zz;");
        measure(x, "nn", NEAR, -4, 5);
        // a half: WORTH 5 by 2
        x = drawn("nv|anv|nva", 1, 5, "nn vv. aa nn vv. aa nn vv. nn vv aa");
        x.weight(2, 1);
        x.wide(0);
        measure(x, "nn vv", NEAR, 2, 1);
        x.wide(1);
        // aa is AROUND nn vv alone of three TERMS, three times: 4 * 5/2 and 1, by 5
        measure(x, "nn vv", NEAR, 11, 5);
    }

    private static void measures() {
        says("MEASURES: 0 COUNT, 1 FREE, 2 WORTH, 3 ODD, 4 WORTH times ODD, 5 NEAR, 6 in how many DOCS it is.");
        TermDraw x = drawn("an|anv", 1, 5, "aa nn. aa nn vv. aa nn", "aa nn", "vv", "aa nn vv");
        Checks.text(x, Checks.GENERAL, "aa nn e");
        // COUNT 5, of which 2 within; LONGER 1, TAKEN 2; ODD 5 * 4 by 2 * 14
        measure(x, "aa nn", COUNT, 5, 1);
        measure(x, "aa nn", FREE, 3, 1);
        measure(x, "aa nn", WORTH, 6, 1);
        measure(x, "aa nn", ODD, 5, 7);
        measure(x, "aa nn", WORTH_ODD, 30, 7);
        // AROUND vv, twice, of one of two TERMS
        measure(x, "aa nn", NEAR, 5, 1);
        measure(x, "aa nn", IN_DOCS, 3, 1);
        measure(x, "aa nn vv", IN_DOCS, 2, 1);
        due("no MEASURE -1", x.measure(0, -1, false), Long.MIN_VALUE);
        due("no MEASURE 7", x.measure(0, 7, false), Long.MIN_VALUE);
        TermDraw y = drawn(".", 1, 1, "w", "w", "w", "w", "w", "w", "w", "w");
        measure(y, "w", IN_DOCS, 8, 1);
        y.drop(0);
        measure(y, "w", IN_DOCS, 7, 1);
    }

    private static void ranked(TermDraw x, int measure, String... want) {
        for (int r = 0; r < want.length; r++) {
            int t = x.ranked(measure, r);
            Checks.due("RANK " + r + " by " + measure, Checks.term(x, t, false), want[r]);
            due("rank of " + want[r], x.rank(t, measure), r);
        }
        due("no RANK more", x.ranked(measure, want.length), NONE);
    }

    private static void ranks() {
        says("RANK by a MEASURE: the greatest first, of equal ones that of greater COUNT, then the lesser number.");
        TermDraw x = drawn("..", 2, 2, "e e. f f. f f. g g. h h. h h", "e e. f f. g g", "g g");
        ranked(x, COUNT, "f f", "g g", "e e", "h h");
        ranked(x, IN_DOCS, "g g", "f f", "e e", "h h");
        x.weight(2, 0);
        ranked(x, WORTH, "f f", "g g", "e e", "h h");
        Checks.text(x, Checks.GENERAL, "f f. f f. g g. g g");
        // ODD: 3 by 3, 3 by 3, 2 by 1, 2 by 1
        ranked(x, ODD, "e e", "h h", "f f", "g g");
        // fractions less than 1 apart, and below 0
        x = drawn("v|pn|an|n", 1, 2, "pp nn. pp nn. aa nn. zz");
        Checks.text(x, Checks.PATTERN, "v|pn|an");
        Checks.text(x, Checks.LEXICON, "v:zz;");
        Checks.text(x, Checks.SAME, "nn zz;");
        // nn: 1 less 3 by 2
        measure(x, "nn", WORTH, -1, 2);
        ranked(x, WORTH, "pp nn", "aa nn", "nn");
        x.weight(2, 0);
        ranked(x, WORTH, "pp nn", "aa nn", "nn");
        x.weight(1, 0);
        ranked(x, WORTH, "pp nn", "aa nn", "nn");
        // fractions that are equal, and a little apart
        x = drawn("..", 2, 2, "e e. e e. f f. f f. f f. f f. f f. f f. f f");
        Checks.text(x, Checks.GENERAL, "e e. f f. f f. f f. f f. f f. f f");
        // ODD: 2 by 2 and 7 by 7 are equal, the greater COUNT is first
        ranked(x, ODD, "f f", "e e");
        Checks.text(x, Checks.GENERAL, "e e. f f. f f. f f. f f. f f. f f. f f");
        ranked(x, ODD, "e e", "f f");
    }

    private static void fractions() {
        says("All FRACTIONS in lowest terms, below above 0 (0 by 1).");
        TermDraw x = drawn("..", 2, 2, "e e. e e. g h w");
        // 2 by 8
        measure(x, "e e", ODD, 1, 4);
        measure(x, "g h", ODD, 1, 8);
        measure(x, "e e", WORTH, 4, 1);
        measure(x, "e e", WORTH_ODD, 1, 1);
        measure(x, "e e", FREE, 2, 1);
        x.weight(2, 0);
        measure(x, "e e", WORTH, 0, 1);
        measure(x, "e e", WORTH_ODD, 0, 1);
        x = drawn("an|anv", 1, 5, "aa nn vv");
        measure(x, "aa nn", FREE, 0, 1);
        measure(x, "aa nn", WORTH, 0, 1);
        x = drawn("v|pn|an", 1, 5, "pp nn. pp nn. aa nn. zz");
        Checks.text(x, Checks.LEXICON, "v:zz;");
        Checks.text(x, Checks.SAME, "nn zz;");
        measure(x, "nn", WORTH, -1, 2);
        // 1 by 8
        measure(x, "nn", WORTH_ODD, -1, 16);
        x.weight(1, 4);
        measure(x, "nn", WORTH, -2, 1);
        measure(x, "nn", WORTH_ODD, -1, 4);
        for (int t = 0; t < 3; t++) {
            for (int m = 0; m < 7; m++) {
                Checks.due("below", x.measure(t, m, true) > 0, true);
            }
        }
    }

    /** One of the calls that ask of what is drawn, by number. */
    private static long ask(TermDraw x, int call) {
        switch (call) {
            case 0: return x.of(0, 2);
            case 1: return x.of(0, 3);
            case 2: return x.match(NONE, 0);
            case 3: return x.match(1, 3);
            case 4: return x.term(1, false);
            case 5: return x.told(NONE, 0);
            case 6: return x.told(0, 0);
            case 7: return x.measure(0, WORTH, false);
            case 8: return x.share(0, COUNT);
            case 9: return x.rest(0, COUNT);
            case 10: return x.ranked(COUNT, 0);
            case 11: return x.rank(0, COUNT);
            case 12: return x.longer(0, NONE);
            case 13: return x.around(1, 0);
            case 14: return x.likely(true);
            case 15: return x.head(NONE, 0);
            case 16: return x.head(0, 1);
            case 17: return x.cover(COUNT, 1);
            default: return Checks.find(x, "w");
        }
    }

    private static void firstAsked() {
        // TERMS of one WORD: at first c and w (c w w c w), then b as well
        long[] then = {5, 2, 5, 1, 1, 2, 2, 2, Float.floatToIntBits(2), Double.doubleToLongBits(0.5),
            1, 1, 0, 3, 2, 2, 2, 3, 1};
        long[] now = {5, 2, 6, 2, 1, 3, 1, 1, Float.floatToIntBits(1), Double.doubleToLongBits(1),
            2, 2, 0, 3, 3, 3, 1, 3, 2};
        for (int call = 0; call < then.length; call++) {
            TermDraw x = drawn("x", 1, 1, "c w w c w");
            x.word(0, 0, false);
            due("first asked, call " + call, ask(x, call), then[call]);
            due("asked again, call " + call, ask(x, call), then[call]);
            Checks.doc(x, "b");
            x.word(0, 1, false);
            due("asked behind a change, call " + call, ask(x, call), now[call]);
            x.undo();
            x.word(0, 0, false);
            due("asked behind undo, call " + call, ask(x, call), then[call]);
        }
    }

    private static void toldNow() {
        says("What is asked is by all that is told now.");
        firstAsked();
        TermDraw x = new TermDraw();
        Checks.doc(x, "rare cells grow. rare cell");
        due("by the PATTERN at first", x.told(NONE, 0), 0);
        Checks.text(x, Checks.LEXICON, "n:cell cells;a:rare;v:grow;");
        terms(x, "rare cell", "rare cells");
        Checks.text(x, Checks.ENDINGS, "s=;");
        terms(x, "rare cell");
        Checks.text(x, Checks.SAME, "cyte cell;");
        terms(x, "rare cyte");
        Checks.text(x, Checks.GENERAL, "rare cytes");
        told(x, "rare cyte", 5, 0);
        Checks.text(x, Checks.LEXICON, "n:cyte;");
        told(x, "rare cyte", 5, 1);
        Checks.text(x, Checks.PATTERN, "a*n*v");
        terms(x, "cyte grow", "rare cyte grow");
        x.lengths(1, 2);
        terms(x, "cyte grow", "grow");
        x.weight(2, 7);
        measure(x, "cyte grow", WORTH, 7, 1);
        x.wide(0);
        told(x, "cyte grow", 8, 0);
        x.undo();
        told(x, "cyte grow", 8, 1);
        x.drop(0);
        terms(x);
    }
}
