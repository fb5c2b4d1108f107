/** Promises 1 to 11 of the document, sentence by sentence: what tells, and undo(). */
final class TellBounds {
    private static final int NONE = TermDraw.NONE;
    private static final int MIN = Integer.MIN_VALUE;
    private static final int MAX = Integer.MAX_VALUE;

    /** A TEXT of each kind that is read, and one with a FAULT: from the DOC (-1) on. */
    private static final String[] GOOD = {"nn aa nn", "n:nn;a:aa;", "s=;", "nn mm;", "nn. aa", "a*n"};
    private static final String[] BAD = {"nn ;", "n:zz", "t=;t", "aa nn;aa", "aa;", "n|)"};

    private TellBounds() {
    }

    static void run() {
        object();
        promise1NothingTold();
        promise2HighestFirst();
        promise2HowMany();
        promise2MoreThan600();
        promise3FirstBytes();
        promise3NotSoMany();
        promise4HowMany();
        promise4TapeEmpty();
        promise4Fault();
        promise4NoSuch();
        promise5Number();
        promise5Fault();
        promise5EightAreThere();
        promise6Drop();
        promise6NoneSuch();
        promise7Latest();
        promise7AnotherWhat();
        promise8Lengths();
        promise9Weight();
        promise10Wide();
        promise11Changes();
        promise11EightAtMost();
        promise11NoChange();
        promise11None();
    }

    private static void says(int promise, String words) {
        BoundsTest.says("" + promise, words);
    }

    private static void due(String what, long got, long want) {
        Checks.due(what, got, want);
    }

    private static void due(String what, boolean got, boolean want) {
        Checks.due(what, got, want);
    }

    private static void looks(TermDraw x, int... want) {
        for (int what = 0; what < want.length; what++) {
            due("look(" + what + ")", x.look(what), want[what]);
        }
    }

    private static void word(TermDraw x, int doc, int i, String want) {
        due("word(" + doc + ", " + i + ")", x.word(doc, i, false), want.length());
        Checks.due("word(" + doc + ", " + i + ")", Checks.slate(x), want);
    }

    /** All that is told as far as it can be asked in some hundred calls. */
    private static String state(TermDraw x) {
        StringBuilder all = new StringBuilder();
        for (int what = 0; what <= 8; what++) {
            all.append(x.look(what)).append(' ');
        }
        for (int doc = 0; doc < x.look(3); doc++) {
            for (int i = 0; i < x.of(doc, 0) && i < 9; i++) {
                x.word(doc, i, false);
                all.append(Checks.slate(x)).append('/');
                x.word(doc, i, true);
                all.append(Checks.slate(x)).append('/').append((char) x.kindAt(doc, i)).append(' ');
            }
        }
        all.append(x.match(NONE, 0)).append(' ');
        for (int t = 0; t < x.told(NONE, 0); t++) {
            all.append(x.told(t, 5)).append(' ').append(x.told(t, 8)).append(' ');
            all.append(x.measure(t, 4, false)).append('/').append(x.measure(t, 4, true)).append(' ');
        }
        return all.toString();
    }

    /** Every kind of thing is told: seven changes. */
    private static TermDraw full() {
        TermDraw x = new TermDraw();
        for (int which = -1; which < 5; which++) {
            due("a good text", Checks.tell(x, which, GOOD[which + 1]) >= 0, true);
        }
        due("a second DOC", Checks.doc(x, "aa nns zz mm. nn nn"), 1);
        return x;
    }

    private static void object() {
        BoundsTest.says("OBJECT", "An object is used for at most 512 calls after it has been made;"
                + " what later calls answer is free.");
        TermDraw x = new TermDraw();
        TermDraw y = new TermDraw();
        // another object's calls are nothing to it
        Checks.doc(y, "nn");
        int calls = 0;
        while (calls < 511) {
            due("text(0)", x.text(0), 0);
            due("undo", x.undo(), true);
            calls += 2;
        }
        due("the 511th", x.look(9), 0);
        due("the 512th", x.look(3), 0);
        x = new TermDraw();
        for (int i = 0; i < 255; i++) {
            due("wide", x.wide(i % 2), true);
            due("look(9)", x.look(9), Math.min(i + 1, 8));
        }
        BoundsTest.says("FACE", "The constants: `NONE = -1`: None.");
        due("NONE", TermDraw.NONE, -1);
    }

    private static void promise1NothingTold() {
        says(1, "Nothing told.");
        TermDraw x = new TermDraw();
        looks(x, 0, 0, 0, 0, 0, 0, 2, 5, 1, 0, 0, NONE);
        due("no MATCHES", x.match(NONE, 0), 0);
        due("no MATCH 0", x.match(0, 0), NONE);
        due("no TERMS", x.told(NONE, 0), 0);
        due("no TERM 0", x.told(0, 0), NONE);
        due("no HEADS", x.head(NONE, 0), 0);
        due("no HEAD 0", x.head(0, 0), NONE);
        due("no DOC 0", x.of(0, 0), NONE);
        due("no WORD", x.word(0, 0, false), NONE);
        due("no KIND", x.kindAt(0, 0), NONE);
        due("THE SLATE is empty", x.slate(NONE), 0);
        due("THE SLATE is empty", x.slate(0), -2);
        due("THE SLATE is no WORD", x.likely(false), NONE);
        due("THE SLATE is no WORD", x.likely(true), NONE);
        due("no FAULT", x.fault(0), 0);
        due("no FAULT", x.fault(1), NONE);
        due("nothing to undo", x.undo(), false);
        due("none dropped", x.drop(0), NONE);
        due("none found", x.find(), NONE);
        due("none covered", x.cover(0, 0), 0);
        due("no first TERM", x.cover(0, 1), NONE);
        for (int n = 1; n <= 5; n++) {
            due("WEIGHT at first the length", x.weight(n, n), false);
        }
        due("nothing has changed", x.undo(), false);
    }

    private static void promise2HighestFirst() {
        says(2, "Twenty bytes come behind THE TAPE, four of each number, the highest first:");
        TermDraw x = new TermDraw();
        x.feed(0x61626364, 0x65666768, 0x20696a6b, 0x6c6d6e6f, 0x70717220);
        x.feed(0x73747576, 0x7778797a, 0x20202020, 0x20202020, 0x2020202e);
        due("doc", x.doc(), 0);
        word(x, 0, 0, "abcdefgh");
        word(x, 0, 1, "ijklmnopqr");
        word(x, 0, 2, "stuvwxyz");
        // each byte at its place: a byte that can't stand, 128 and more too
        int[] bytes = {0, 1, 127, 128, 255};
        for (int place = 0; place < 20; place++) {
            for (int b : bytes) {
                int[] n = {0x20202020, 0x20202020, 0x20202020, 0x20202020, 0x20202020};
                int shift = 24 - 8 * (place % 4);
                n[place / 4] = n[place / 4] & ~(255 << shift) | b << shift;
                TermDraw y = new TermDraw();
                due("feed", y.feed(n[0], n[1], n[2], n[3], n[4]), 20);
                due("doc with " + b + " at " + place, y.doc(), NONE);
                due("its place", y.fault(1), place);
            }
        }
        TermDraw z = new TermDraw();
        due("feed", z.feed(MIN, MAX, -1, 0, 1), 20);
        due("doc", z.doc(), NONE);
        due("place", z.fault(1), 0);
    }

    private static void promise2HowMany() {
        says(2, "how many it has;");
        TermDraw x = new TermDraw();
        for (int n = 1; n <= 30; n++) {
            due("feed", x.feed(n, 0, 0, 0, n), 20 * n);
            due("tape", x.look(10), 20 * n);
        }
        x.end(7);
        due("behind what is left", x.feed(0, 0, 0, 0, 0), 27);
        x.end(0);
        due("behind nothing", x.feed(0, 0, 0, 0, 0), 20);
    }

    private static void promise2MoreThan600() {
        says(2, "NONE, and none come, if there would be more than 600.");
        for (int left = 578; left <= 600; left++) {
            TermDraw x = new TermDraw();
            for (int i = 0; i < 30; i++) {
                x.feed(0x20202020, 0x20202020, 0x20202020, 0x20202020, 0x20202020);
            }
            due("end", x.end(left), true);
            int want = left <= 580 ? left + 20 : NONE;
            due("feed behind " + left, x.feed(0x61616161, 0x61612020, 0x2020202e, 0x20202020, 0x20202020), want);
            due("tape", x.look(10), left <= 580 ? left + 20 : left);
            due("none come", x.doc(), 0);
            due("WORDS", x.of(0, 0), left <= 580 ? 1 : 0);
        }
    }

    private static void promise3FirstBytes() {
        says(3, "THE TAPE has its first n bytes alone: true;");
        for (int n = 0; n <= 20; n++) {
            TermDraw x = new TermDraw();
            Checks.type(x, "ab ab ab ab ab ab ab");
            due("end(" + n + ")", x.end(n), true);
            due("tape", x.look(10), n);
            due("doc", x.doc(), 0);
            due("WORDS", x.of(0, 0), (n + 2) / 3);
        }
        TermDraw x = new TermDraw();
        Checks.type(x, "%ab");
        due("end(2)", x.end(2), true);
        due("end(1)", x.end(1), true);
        due("the first ones", x.doc(), NONE);
        due("none on none", x.end(0), true);
    }

    private static void promise3NotSoMany() {
        says(3, "false if it has not so many, or n is below 0.");
        int[] sizes = {0, 1, 20, 580, 600};
        for (int size : sizes) {
            TermDraw x = new TermDraw();
            Checks.type(x, " ".repeat(size));
            int[] wrong = {-1, MIN, size + 1, size + 2, 601, MAX};
            for (int n : wrong) {
                due("end(" + n + ") of " + size, x.end(n), false);
                due("tape", x.look(10), size);
            }
            due("end(" + size + ")", x.end(size), true);
            due("tape", x.look(10), size);
        }
    }

    private static void promise4HowMany() {
        says(4, "THE TAPE (empty then, with a FAULT, too) is a TEXT, which 0 LEXICON (more of it), 1 ENDINGS,"
                + " 2 SAME, 3 GENERAL, 4 PATTERN:");
        // one and the same text, by what it is told as
        TermDraw x = new TermDraw();
        Checks.refused(x, 0, "n.", 1, 1);
        Checks.refused(x, 1, "n.", 1, 1);
        Checks.refused(x, 2, "n.", 1, 1);
        Checks.taken(x, 3, "n.", 1);
        Checks.taken(x, 4, "n.", 2);
        Checks.taken(x, 0, "n:aa bb;", 2);
        Checks.taken(x, 0, "n:cc;", 3);
        looks(x, 3, 0, 0, 0, 0, 1);
        says(4, "how many WORDS the LEXICON has, ENDINGS, WORDS of SAME, WORDS of GENERAL,"
                + " KINDS and \".\" of the PATTERN.");
        Checks.taken(x, 0, "v:aa cc;", 3);
        Checks.taken(x, 0, "", 3);
        Checks.taken(x, 1, "s=;s=;", 2);
        Checks.taken(x, 1, "", 0);
        Checks.taken(x, 2, "a b;a b;", 4);
        Checks.taken(x, 2, "", 0);
        Checks.taken(x, 3, "a a.a", 3);
        Checks.taken(x, 3, "", 0);
        Checks.taken(x, 4, "(n.)*|n?", 3);
        Checks.taken(x, 4, "", 0);
    }

    private static void promise4TapeEmpty() {
        says(4, "(empty then, with a FAULT, too)");
        for (int which = -1; which < 5; which++) {
            TermDraw x = new TermDraw();
            Checks.type(x, GOOD[which + 1]);
            due("read", (which < 0 ? x.doc() : x.text(which)) >= 0, true);
            due("tape", x.look(10), 0);
            due("none of it is left", x.end(1), false);
            Checks.type(x, BAD[which + 1]);
            due("a FAULT", which < 0 ? x.doc() : x.text(which), NONE);
            due("tape", x.look(10), 0);
            due("feed behind it", x.feed(0, 0, 0, 0, 0), 20);
        }
    }

    private static void promise4Fault() {
        says(4, "NONE with a FAULT (what was told stays);");
        TermDraw x = full();
        String before = state(x);
        word(x, 0, 1, "aa");
        for (int which = -1; which < 5; which++) {
            due("NONE", Checks.tell(x, which, BAD[which + 1]), NONE);
            Checks.due("THE SLATE stays", Checks.slate(x), "aa");
        }
        for (int which = 0; which < 5; which++) {
            due("NONE", Checks.text(x, which, BAD[which + 1]), NONE);
            due("a FAULT", x.fault(0), 1);
            Checks.due("what was told", state(x), before);
            due("no change", x.look(9), 7);
        }
        // nn and aa and 78 others fill the LEXICON, b and nn and 38 others SAME
        String[] many = {"v:nn aa;n:" + Checks.many(26, 79) + ";", "a=;".repeat(9), "b nn;" + Checks.many(0, 39) + ";",
            "w ".repeat(241), "n".repeat(13)};
        int[] place = {10 + 3 * 78, 24, 5 + 3 * 38, 480, 12};
        for (int which = 0; which < 5; which++) {
            Checks.refused(x, which, many[which], 2, place[which]);
            Checks.due("what was told", state(x), before);
        }
        // what it told ahead of the FAULT is not told either
        due("undo", x.undo(), true);
        due("no DOC more", x.look(3), 1);
        due("the same again", Checks.doc(x, "aa nns zz mm. nn nn"), 1);
        Checks.due("what was told", state(x), before);
    }

    private static void promise4NoSuch() {
        says(4, "-2, THE TAPE empty, too, FAULT 0: no such one.");
        int[] wrong = {-1, 5, 6, -2, MIN, MAX};
        for (int which : wrong) {
            TermDraw x = full();
            String before = state(x);
            Checks.refused(x, 0, "n:", 1, 2);
            Checks.type(x, "n:zz;");
            due("text(" + which + ")", x.text(which), -2);
            due("tape", x.look(10), 0);
            due("FAULT", x.fault(0), 0);
            due("its place", x.fault(1), NONE);
            due("changes", x.look(9), 7);
            Checks.due("what was told", state(x), before);
            due("of an empty tape", x.text(which), -2);
        }
        Checks.read(0, "", 0);
        Checks.read(4, "", 0);
    }

    private static void promise5Number() {
        says(5, "THE TAPE (empty then, with a FAULT, too) is a DOC more: its number.");
        TermDraw x = new TermDraw();
        Checks.taken(x, -1, "aa", 0);
        Checks.taken(x, -1, "", 1);
        Checks.taken(x, -1, "bb cc", 2);
        word(x, 0, 0, "aa");
        due("none", x.of(1, 0), 0);
        word(x, 2, 1, "cc");
        x.drop(1);
        Checks.taken(x, -1, "dd", 2);
        word(x, 1, 1, "cc");
        word(x, 2, 0, "dd");
        x.undo();
        Checks.taken(x, -1, "ee", 2);
        word(x, 2, 0, "ee");
    }

    private static void promise5Fault() {
        says(5, "NONE with a FAULT;");
        TermDraw x = full();
        String before = state(x);
        Checks.refused(x, -1, "aa nn;", 1, 5);
        Checks.refused(x, -1, "w ".repeat(231) + ";", 1, 462);
        looks(x, 2, 1, 2, 2, 9, 2);
        Checks.due("what was told", state(x), before);
        due("no change", x.look(9), 7);
        Checks.refused(x, -1, "w ".repeat(232), 2, 462);
        Checks.due("what was told", state(x), before);
    }

    private static void promise5EightAreThere() {
        says(5, "-2, THE TAPE empty, too, FAULT 0: 8 are there.");
        TermDraw x = new TermDraw();
        for (int doc = 0; doc < 7; doc++) {
            due("doc", Checks.doc(x, "w"), doc);
        }
        Checks.refused(x, -1, "%", 1, 0);
        due("the eighth", Checks.doc(x, ""), 7);
        Checks.refused(x, 0, "%", 1, 0);
        String before = state(x);
        String[] texts = {"w", "", "%", "w ".repeat(241)};
        for (String text : texts) {
            due("the ninth", Checks.doc(x, text), -2);
            due("tape", x.look(10), 0);
            due("FAULT", x.fault(0), 0);
            due("its place", x.fault(1), NONE);
            due("changes", x.look(9), 8);
            Checks.due("what was told", state(x), before);
        }
        due("undo", x.undo(), true);
        Checks.taken(x, -1, "w", 7);
    }

    private static void promise6Drop() {
        says(6, "A DOC goes (those behind it are one less): how many are left.");
        for (int gone = 0; gone < 8; gone++) {
            TermDraw x = new TermDraw();
            for (int doc = 0; doc < 8; doc++) {
                Checks.doc(x, "aa. " + (char) ('b' + doc) + " w");
            }
            due("drop(" + gone + ")", x.drop(gone), 7);
            due("DOCS", x.look(3), 7);
            due("WORDS", x.look(4), 21);
            for (int doc = 0; doc < 7; doc++) {
                word(x, doc, 1, "" + (char) ('b' + doc + (doc >= gone ? 1 : 0)));
                due("WORDS", x.of(doc, 0), 3);
                due("SENTENCES", x.of(doc, 1), 2);
            }
            due("none behind", x.of(7, 0), NONE);
        }
        unlikeDocs();
        TermDraw x = new TermDraw();
        Checks.doc(x, "");
        Checks.doc(x, "b c");
        Checks.doc(x, "");
        due("an empty one", x.drop(0), 2);
        word(x, 0, 1, "c");
        due("an empty one", x.drop(1), 1);
        due("the last", x.drop(0), 0);
        due("WORDS", x.look(4), 0);
    }

    /** Each DOC has other SENTENCES: they go with it, and stay with those behind it. */
    private static void unlikeDocs() {
        String[] docs = {"b c d", "b. c. d. e", "b c. d", ".. b c d e f", "b.c"};
        int[] words = {3, 4, 3, 5, 2};
        int[] sentences = {1, 4, 2, 1, 2};
        int[] matches = {2, 0, 1, 4, 0};
        for (int gone = 0; gone < 5; gone++) {
            TermDraw x = new TermDraw();
            Checks.text(x, 4, "..");
            for (String doc : docs) {
                Checks.doc(x, doc);
            }
            due("drop(" + gone + ")", x.drop(gone), 4);
            int all = 0;
            for (int doc = 0; doc < 4; doc++) {
                int was = doc + (doc >= gone ? 1 : 0);
                due("WORDS", x.of(doc, 0), words[was]);
                due("SENTENCES", x.of(doc, 1), sentences[was]);
                due("MATCHES", x.of(doc, 2), matches[was]);
                due("its first MATCH's DOC", matches[was] > 0 ? x.match(all, 0) : doc, doc);
                all += matches[was];
            }
            due("MATCHES", x.match(NONE, 0), all);
            for (int doc = 4; doc < 9; doc++) {
                due("no WORD", x.word(doc, 0, false), NONE);
                due("no KIND", x.kindAt(doc, 0), NONE);
                due("no DOC", x.of(doc, 0), NONE);
            }
        }
    }

    private static void promise6NoneSuch() {
        says(6, "NONE: none such.");
        TermDraw x = new TermDraw();
        due("of no DOCS", x.drop(0), NONE);
        Checks.doc(x, "w");
        Checks.doc(x, "w");
        int[] wrong = {-1, 2, 3, 8, MIN, MAX};
        for (int doc : wrong) {
            due("drop(" + doc + ")", x.drop(doc), NONE);
            due("DOCS", x.look(3), 2);
            due("changes", x.look(9), 2);
        }
        due("drop(1)", x.drop(1), 1);
        due("drop(1)", x.drop(1), NONE);
        due("drop(0)", x.drop(0), 0);
        due("drop(0)", x.drop(0), NONE);
    }

    private static void faults(TermDraw x, int what, int place) {
        due("fault(0)", x.fault(0), what);
        due("fault(1)", x.fault(1), place);
    }

    private static void promise7Latest() {
        says(7, "Of the latest text(), doc() what 0 its FAULT (0 without), 1 its place (NONE).");
        TermDraw x = new TermDraw();
        faults(x, 0, NONE);
        Checks.text(x, 0, "%");
        faults(x, 1, 0);
        faults(x, 1, 0);
        Checks.text(x, 4, "nnnnnnnnnnnnn");
        faults(x, 2, 12);
        Checks.text(x, 4, "nnnnnnnnnnnn");
        faults(x, 0, NONE);
        Checks.doc(x, "a;");
        faults(x, 1, 1);
        Checks.doc(x, "a");
        faults(x, 0, NONE);
        Checks.doc(x, "a;");
        Checks.text(x, 5, "n:");
        faults(x, 0, NONE);
        Checks.text(x, 2, " ".repeat(600));
        faults(x, 0, NONE);
        Checks.text(x, 2, "a" + " ".repeat(599));
        faults(x, 1, 600);
        // other calls leave it
        x.feed(0, 0, 0, 0, 0);
        x.end(0);
        x.wide(2);
        x.lengths(1, 1);
        x.weight(1, 9);
        x.drop(0);
        x.undo();
        Checks.find(x, "%");
        x.word(0, 0, false);
        faults(x, 1, 600);
    }

    private static void promise7AnotherWhat() {
        says(7, "NONE for another what.");
        TermDraw x = new TermDraw();
        int[] wrong = {-1, 2, MIN, MAX};
        for (int what : wrong) {
            due("fault(" + what + ")", x.fault(what), NONE);
        }
        Checks.text(x, 0, "n%");
        for (int what : wrong) {
            due("fault(" + what + ")", x.fault(what), NONE);
        }
        faults(x, 1, 1);
    }

    private static void promise8Lengths() {
        says(8, "LEAST, MOST: true; false if they can't be (LEAST above MOST, too), or are so.");
        TermDraw x = new TermDraw();
        int least = 2;
        int most = 5;
        for (int a = -1; a <= 7; a++) {
            for (int b = -1; b <= 7; b++) {
                boolean can = a >= 1 && a <= b && b <= 5 && (a != least || b != most);
                due("lengths(" + a + ", " + b + ") of " + least + ", " + most, x.lengths(a, b), can);
                if (can) {
                    least = a;
                    most = b;
                    due("as they are", x.lengths(a, b), false);
                }
                due("LEAST", x.look(6), least);
                due("MOST", x.look(7), most);
            }
        }
        TermDraw y = new TermDraw();
        due("as they are", y.lengths(2, 5), false);
        due("one of them as it is", y.lengths(2, 4), true);
        due("the other as it is", y.lengths(1, 4), true);
        due("(MIN, 5)", y.lengths(MIN, 5), false);
        due("(1, MAX)", y.lengths(1, MAX), false);
        due("(MIN, MAX)", y.lengths(MIN, MAX), false);
        due("(MAX, MIN)", y.lengths(MAX, MIN), false);
        due("changes", y.look(9), 2);
        due("undo", y.undo(), true);
        due("LEAST", y.look(6), 2);
        due("MOST", y.look(7), 4);
    }

    private static void promise9Weight() {
        says(9, "WEIGHT of a length: true; false if one can't be, or it is so.");
        for (int n = -1; n <= 7; n++) {
            TermDraw x = new TermDraw();
            int now = n;
            for (int v = -2; v <= 11; v++) {
                boolean can = n >= 1 && n <= 5 && v >= 0 && v <= 9 && v != now;
                due("weight(" + n + ", " + v + ") of " + now, x.weight(n, v), can);
                if (can) {
                    now = v;
                    due("as it is", x.weight(n, v), false);
                }
            }
        }
        TermDraw x = new TermDraw();
        due("(MIN, 1)", x.weight(MIN, 1), false);
        due("(MAX, 1)", x.weight(MAX, 1), false);
        due("(1, MIN)", x.weight(1, MIN), false);
        due("(1, MAX)", x.weight(1, MAX), false);
        due("changes", x.look(9), 0);
        due("of length 2 alone", x.weight(2, 3), true);
        due("as it is", x.weight(1, 1), false);
        due("as it is", x.weight(3, 3), false);
        due("undo", x.undo(), true);
        due("as it was", x.weight(2, 2), false);
        // each stays as it is told whatever else is told behind it
        TermDraw y = new TermDraw();
        for (int n = 1; n <= 5; n++) {
            due("weight", y.weight(n, 9 - n), true);
        }
        for (int i = 0; i < 10; i++) {
            if (i == 6) {
                Checks.doc(y, "w");
            }
            if (i != 8) {
                change(y, i);
            }
            for (int n = 1; n <= 5; n++) {
                due("stays as it is told", y.weight(n, 9 - n), false);
            }
        }
    }

    private static void promise10Wide() {
        says(10, "WIDE: true; false if it can't be, or is so.");
        TermDraw x = new TermDraw();
        int now = 1;
        int[] all = {1, -1, 0, 0, 1, 2, 2, 3, 3, 4, 5, MAX, MIN, 0, 3};
        for (int v : all) {
            boolean can = v >= 0 && v <= 3 && v != now;
            due("wide(" + v + ") of " + now, x.wide(v), can);
            now = can ? v : now;
            due("WIDE", x.look(8), now);
        }
        due("changes", x.look(9), 6);
    }

    /** Does the i-th of the changes that undo() knows. */
    private static void change(TermDraw x, int i) {
        switch (i) {
            case 5:
                due("doc", Checks.doc(x, "nn nn aa"), x.look(3) - 1);
                break;
            case 6:
                due("drop", x.drop(0) >= 0, true);
                break;
            case 7:
                due("lengths", x.lengths(1, 3), true);
                break;
            case 8:
                due("weight", x.weight(2, 8), true);
                break;
            case 9:
                due("wide", x.wide(3), true);
                break;
            default:
                String[] texts = {"v:nn;d:zz;", "nn=aa;zz=;", "aa nn;", "nn nn aa", "n|v|d|x"};
                due("text(" + i + ")", Checks.text(x, i, texts[i]) >= 0, true);
                break;
        }
    }

    private static void promise11Changes() {
        says(11, "The latest of text(), doc(), drop(), lengths(), weight(), wide() that changed what is told is undone");
        for (int i = 0; i < 10; i++) {
            TermDraw x = full();
            String before = state(x);
            change(x, i);
            due("changes", x.look(9), 8);
            Checks.due("it changed what is asked", state(x).equals(before), false);
            due("undo", x.undo(), true);
            Checks.due("what was told ahead of change " + i, state(x), before);
            due("changes", x.look(9), 7);
            for (int j = 0; j < 10; j++) {
                change(x, j);
                String then = state(x);
                change(x, i == j ? 5 : i);
                due("undo", x.undo(), true);
                Checks.due("the latest alone, " + i + " behind " + j, state(x), then);
                due("undo", x.undo(), true);
                Checks.due("the one ahead of it", state(x), before);
            }
        }
    }

    private static void promise11EightAtMost() {
        says(11, "(8 at most; a text() that is read counts): true;");
        for (int changes = 0; changes <= 20; changes++) {
            TermDraw x = new TermDraw();
            for (int i = 0; i < changes; i++) {
                due("a text that is read", Checks.text(x, 3, "w ".repeat(i + 1)), i + 1);
                due("changes", x.look(9), Math.min(i + 1, 8));
            }
            // faults and refused calls behind the eighth take none of them away
            Checks.text(x, 3, "w w;");
            Checks.doc(x, "w w;");
            Checks.text(x, 9, "");
            x.wide(9);
            for (int i = 0; i < Math.min(changes, 8); i++) {
                due("undo " + i + " of " + changes, x.undo(), true);
                due("changes", x.look(9), Math.min(changes, 8) - 1 - i);
                due("GENERAL", x.look(5), changes - 1 - i);
            }
            due("the one behind the oldest", x.undo(), false);
            due("GENERAL stays", x.look(5), Math.max(0, changes - 8));
            due("changes", x.look(9), 0);
        }
        // undone and told anew: what was undone is gone
        TermDraw x = new TermDraw();
        for (int i = 1; i <= 6; i++) {
            Checks.text(x, 3, "w ".repeat(i));
        }
        for (int i = 0; i < 4; i++) {
            due("undo", x.undo(), true);
        }
        for (int i = 11; i <= 17; i++) {
            Checks.text(x, 3, "w ".repeat(i));
        }
        due("changes", x.look(9), 8);
        int[] want = {16, 15, 14, 13, 12, 11, 2, 1};
        for (int general : want) {
            due("undo", x.undo(), true);
            due("GENERAL", x.look(5), general);
        }
        due("the one behind the oldest", x.undo(), false);
        // a text that is read and changes nothing counts, an empty one too
        x = new TermDraw();
        for (int which = 0; which < 5; which++) {
            Checks.taken(x, which, which == 4 ? "(a|n)*n" : "", which == 4 ? 3 : 0);
            due("changes", x.look(9), which + 1);
        }
        Checks.taken(x, -1, "", 0);
        due("changes", x.look(9), 6);
    }

    private static void promise11NoChange() {
        says(11, "that changed what is told");
        TermDraw x = full();
        String before = state(x);
        for (int which = -1; which < 5; which++) {
            due("a FAULT", Checks.tell(x, which, BAD[which + 1]), NONE);
        }
        Checks.text(x, -1, "n:zz;");
        Checks.text(x, 5, "n:zz;");
        x.drop(-1);
        x.drop(2);
        x.lengths(2, 5);
        x.lengths(0, 5);
        x.weight(2, 2);
        x.weight(2, 10);
        x.wide(1);
        x.wide(4);
        Checks.find(x, "aa nn");
        x.feed(0, 0, 0, 0, 0);
        x.end(0);
        due("changes", x.look(9), 7);
        Checks.due("what was told", state(x), before);
        due("undo", x.undo(), true);
        due("the latest that changed", x.look(3), 1);
        // THE TAPE and THE SLATE are not told: they stay
        Checks.type(x, "abc");
        word(x, 0, 0, "nn");
        due("undo", x.undo(), true);
        due("THE TAPE", x.look(10), 3);
        Checks.due("THE SLATE", Checks.slate(x), "nn");
    }

    private static void promise11None() {
        says(11, "false if there is none.");
        TermDraw x = new TermDraw();
        due("undo", x.undo(), false);
        x.wide(0);
        due("undo", x.undo(), true);
        due("undo", x.undo(), false);
        due("undo", x.undo(), false);
        due("WIDE", x.look(8), 1);
        looks(x, 0, 0, 0, 0, 0, 0, 2, 5, 1, 0, 0);
        x.wide(3);
        due("changes", x.look(9), 1);
        due("undo", x.undo(), true);
        due("WIDE", x.look(8), 1);
    }
}
