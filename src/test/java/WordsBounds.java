/** The block "1. WORDS" of the document, sentence by sentence: TEXTS, BASES, KINDS at their bounds. */
final class WordsBounds {
    private static final int NONE = TermDraw.NONE;
    private static final int DOC = Checks.DOC;
    private static final int LEXICON = Checks.LEXICON;
    private static final int ENDINGS = Checks.ENDINGS;
    private static final int SAME = Checks.SAME;
    private static final int GENERAL = Checks.GENERAL;
    private static final int PATTERN = Checks.PATTERN;

    /** A TEXT of each kind that is read, and what is answered to it: from the DOC (-1) on. */
    private static final String[] GOOD = {"a b. c", "n:a b;", "s=;t=;", "a b;", "a. b", "n|a"};
    private static final int[] ANSWERS = {0, 2, 2, 2, 2, 2};

    private WordsBounds() {
    }

    static void run() {
        words();
        kinds();
        tape();
        blanks();
        allOfTheTape();
        firstFault();
        cantStand();
        oneTooMany();
        lexiconLines();
        lexiconKinds();
        lexiconToldAgain();
        lexiconFull();
        endingsLines();
        endingsFull();
        endingsInPlace();
        sameLines();
        sameAsTheFirst();
        sameInPlace();
        sameFull();
        sameAlready();
        docSentences();
        docsFull();
        docWordsFull();
        general();
        patternRows();
        patternItems();
        patternLetters();
        patternFull();
        baseOfSame();
        baseByEnding();
        baseTwoLetters();
        baseOfLexicon();
        baseItself();
        kindOfWord();
    }

    private static void says(String words) {
        BoundsTest.says("WORDS", words);
    }

    private static void due(String what, long got, long want) {
        Checks.due(what, got, want);
    }

    private static String text(int bytes, char of) {
        return String.valueOf(of).repeat(bytes);
    }

    /** The WORDS of a DOC. */
    private static void holds(String text, String... words) {
        TermDraw x = new TermDraw();
        due("doc of <" + text + ">", Checks.doc(x, text), 0);
        wordsOf(x, 0, words);
    }

    private static void wordsOf(TermDraw x, int doc, String... words) {
        due("of(" + doc + ", 0)", x.of(doc, 0), words.length);
        for (int i = 0; i < words.length; i++) {
            due("word " + i, x.word(doc, i, false), words[i].length());
            Checks.due("word " + i, Checks.slate(x), words[i]);
        }
    }

    private static void base(TermDraw x, String word, String want) {
        due("doc", Checks.doc(x, word), x.look(3) - 1);
        due("letters of the BASE of " + word, x.word(x.look(3) - 1, 0, true), want.length());
        Checks.due("BASE of " + word, Checks.slate(x), want);
        due("undo", x.undo() ? 1 : 0, 1);
    }

    private static TermDraw told(String lexicon, String endings, String same) {
        TermDraw x = new TermDraw();
        Checks.text(x, LEXICON, lexicon);
        Checks.text(x, ENDINGS, endings);
        Checks.text(x, SAME, same);
        due("told <" + lexicon + "> <" + endings + "> <" + same + ">", x.look(9), 3);
        return x;
    }

    private static void base(String lexicon, String endings, String same, String word, String want) {
        base(told(lexicon, endings, same), word, want);
    }

    private static void words() {
        says("1. WORDS: 1 to 10 letters a .. z that stand together.");
        holds("");
        holds("q", "q");
        holds("abcdefghi", "abcdefghi");
        holds("abcdefghij", "abcdefghij");
        Checks.faulty(DOC, "abcdefghijk", 1, 0);
        holds("abcdefghij abcdefghij", "abcdefghij", "abcdefghij");
        holds("abcdefghij.klmnopqrst", "abcdefghij", "klmnopqrst");
        holds("az za zzzzzzzzzz aaaaaaaaaa", "az", "za", "zzzzzzzzzz", "aaaaaaaaaa");
        char[] beside = {'a' - 1, 'z' + 1, 'A', 'Z', 'A' - 1, 'Z' + 1, 'a' + 128, 'z' + 128, 0, 255};
        for (char c : beside) {
            Checks.faulty(DOC, "" + c, 1, 0);
            Checks.faulty(DOC, "a" + c, 1, 1);
        }
    }

    private static void kinds() {
        says("KINDS: n, a, v, p, d, o, and x (a WORD of which none is told).");
        for (char c = 'a'; c <= 'z'; c++) {
            if ("navpdo".indexOf(c) >= 0) {
                TermDraw x = new TermDraw();
                Checks.taken(x, LEXICON, c + ":cell;", 1);
                Checks.taken(x, DOC, "cell wall", 0);
                due("KIND told", x.kindAt(0, 0), c);
                due("none told", x.kindAt(0, 1), 'x');
            } else {
                Checks.faulty(LEXICON, c + ":cell;", 1, 0);
            }
            if ("navpdox".indexOf(c) >= 0) {
                Checks.read(PATTERN, "" + c, 1);
            } else {
                Checks.faulty(PATTERN, "" + c, 1, 0);
            }
        }
    }

    private static void tape() {
        says("THE TAPE has 600 bytes;");
        holds(text(599, ' ') + "z", "z");
        holds("a" + text(598, ' ') + "z", "a", "z");
        Checks.faulty(DOC, text(599, ' ') + "%", 1, 599);
        Checks.faulty(LEXICON, "n:a" + text(597, ' '), 1, 600);
        Checks.faulty(LEXICON, "n:a" + text(596, ' '), 1, 599);
        Checks.read(LEXICON, "n:a" + text(596, '\n') + ";", 1);
        TermDraw x = new TermDraw();
        Checks.type(x, text(600, 'a'));
        due("tape", x.look(10), 600);
        due("one number more", x.feed(0, 0, 0, 0, 0), NONE);
        due("tape", x.look(10), 600);
    }

    private static void blanks() {
        says("blanks (32, 10) part WORDS, mean nothing else.");
        for (char c = 0; c < 256; c++) {
            String text = "ab" + c + "cd";
            if (c == 32 || c == 10) {
                holds(text, "ab", "cd");
                Checks.read(LEXICON, c + "n" + c + ":" + c + "a" + c + c + "b" + c + ";" + c, 2);
                Checks.read(ENDINGS, c + "s" + c + "=" + c + ";" + c + "t=" + c + "u" + c + ";" + c, 2);
                Checks.read(SAME, c + "a" + c + "b" + c + ";" + c, 2);
                Checks.read(GENERAL, c + "a" + c + "." + c + "b" + c, 2);
                Checks.read(PATTERN, c + "(" + c + "n" + c + "|" + c + ")" + c + "*" + c + "." + c + "?" + c, 2);
                TermDraw x = new TermDraw();
                Checks.doc(x, text + c + c + "ef");
                due("a blank ends no SENTENCE", x.of(0, 1), 1);
            } else if (c == '.') {
                holds(text, "ab", "cd");
            } else if (c >= 'a' && c <= 'z') {
                holds(text, text);
            } else {
                Checks.faulty(DOC, text, 1, 2);
            }
        }
        for (int which = 0; which <= 4; which++) {
            Checks.read(which, "", 0);
            Checks.read(which, " ", 0);
            Checks.read(which, text(600, '\n'), 0);
        }
        holds(" \n ");
        Checks.faulty(LEXICON, "n:a\t;", 1, 3);
        Checks.faulty(PATTERN, "n\r", 1, 1);
    }

    private static void allOfTheTape() {
        says("TEXTS, each read from all of THE TAPE:");
        for (int which = DOC; which <= PATTERN; which++) {
            String good = GOOD[which + 1];
            Checks.read(which, good, ANSWERS[which + 1]);
            Checks.read(which, good + text(600 - good.length(), ' '), ANSWERS[which + 1]);
            Checks.faulty(which, good + "%", 1, good.length());
            Checks.faulty(which, good + text(599 - good.length(), ' ') + "%", 1, 599);
            TermDraw x = new TermDraw();
            Checks.type(x, good + text(599 - good.length(), ' ') + "%");
            due("end", x.end(599) ? 1 : 0, 1);
            due("one byte less", which == DOC ? x.doc() : x.text(which), ANSWERS[which + 1]);
        }
    }

    private static void firstFault() {
        says("FAULTS, the first by its place (from 0; the end: its length), of one place the least:");
        Checks.faulty(LEXICON, "%n:a%;", 1, 0);
        Checks.faulty(LEXICON, "n:a%;%", 1, 3);
        Checks.faulty(LEXICON, "n", 1, 1);
        Checks.faulty(LEXICON, "n:", 1, 2);
        Checks.faulty(LEXICON, "n:a", 1, 3);
        Checks.faulty(LEXICON, "n:a \n", 1, 5);
        Checks.faulty(ENDINGS, "s", 1, 1);
        Checks.faulty(ENDINGS, "s=", 1, 2);
        Checks.faulty(ENDINGS, "s=t ", 1, 4);
        Checks.faulty(SAME, "a", 1, 1);
        Checks.faulty(SAME, "a b\n", 1, 4);
        Checks.faulty(PATTERN, "(", 1, 1);
        Checks.faulty(PATTERN, "(n| ", 1, 4);
        // 2 ahead of 1, 1 ahead of 2
        Checks.faulty(PATTERN, text(13, 'n') + "b", 2, 12);
        Checks.faulty(PATTERN, "b" + text(13, 'n'), 1, 0);
        Checks.faulty(SAME, Checks.many(0, 41) + "%", 2, 120);
        Checks.faulty(SAME, "aa;" + Checks.many(0, 41), 1, 2);
        // a WORD too long that is one too many, too
        Checks.faulty(LEXICON, "n:" + Checks.many(0, 80) + "abcdefghijk;", 1, 242);
        Checks.faulty(LEXICON, "n:" + Checks.many(0, 80) + "abcdefghij;", 2, 242);
        Checks.faulty(ENDINGS, "a=;b=;c=;d=;e=;f=;g=;h=;abcdefghijk=;", 1, 24);
        Checks.faulty(ENDINGS, "a=;b=;c=;d=;e=;f=;g=;h=;abcdefghij=;", 2, 24);
        Checks.faulty(SAME, Checks.many(0, 40) + "abcdefghijk;", 1, 120);
        Checks.faulty(SAME, Checks.many(0, 40) + "abcdefghij;", 2, 120);
        Checks.faulty(GENERAL, Checks.prose(240) + "abcdefghijk", 1, 480);
        Checks.faulty(GENERAL, Checks.prose(240) + "abcdefghij", 2, 480);
        Checks.faulty(DOC, Checks.prose(240) + "abcdefghijk", 1, 480);
        Checks.faulty(DOC, Checks.prose(240) + "abcdefghij", 2, 480);
        Checks.faulty(PATTERN, text(12, 'n') + "b", 1, 12);
        Checks.faulty(PATTERN, text(12, 'n') + "x", 2, 12);
    }

    private static void cantStand() {
        says("1 a byte, a WORD that can't stand there (one of 11 letters and more: at its first).");
        for (int letters = 9; letters <= 13; letters++) {
            String word = "abcdefghijklm".substring(0, letters);
            if (letters <= 10) {
                Checks.read(LEXICON, "n:" + word + ";", 1);
                Checks.read(ENDINGS, word + "=" + word + ";", 1);
                Checks.read(SAME, word + " b " + word + ";", 3);
                Checks.read(GENERAL, "a " + word + ".", 2);
                holds("a " + word + ".", "a", word);
            } else {
                Checks.faulty(LEXICON, "n:" + word + ";", 1, 2);
                Checks.faulty(LEXICON, "n:a " + word + ";", 1, 4);
                Checks.faulty(ENDINGS, word + "=;", 1, 0);
                Checks.faulty(ENDINGS, "s=" + word + ";", 1, 2);
                Checks.faulty(SAME, word + " a;", 1, 0);
                Checks.faulty(SAME, "a " + word + ";", 1, 2);
                Checks.faulty(SAME, "a b " + word + ";", 1, 4);
                Checks.faulty(GENERAL, "a " + word + ".", 1, 2);
                Checks.faulty(DOC, "a " + word + ".", 1, 2);
            }
            Checks.faulty(LEXICON, word + ":a;", 1, 0);
        }
        for (int which = DOC; which <= SAME; which++) {
            Checks.faulty(which, text(600, 'n'), 1, 0);
        }
        Checks.faulty(GENERAL, " " + text(599, 'n'), 1, 1);
        Checks.read(PATTERN, text(11, 'n'), 11);
        String[] bytes = {",", ":", ";", "=", "|", "(", "*", "?", "0", "-", "%"};
        for (String c : bytes) {
            Checks.faulty(DOC, "a " + c, 1, 2);
            Checks.faulty(GENERAL, "a" + c, 1, 1);
        }
        Checks.faulty(LEXICON, "n=a;", 1, 1);
        Checks.faulty(LEXICON, "n:a.", 1, 3);
        Checks.faulty(ENDINGS, "s:;", 1, 1);
        Checks.faulty(SAME, "a=b;", 1, 1);
        Checks.faulty(PATTERN, "n;", 1, 1);
        Checks.faulty(PATTERN, "n=", 1, 1);
    }

    private static void oneTooMany() {
        says("2 one too many (at it).");
        Checks.read(LEXICON, "n:" + Checks.many(0, 80) + ";", 80);
        Checks.faulty(LEXICON, "n:" + Checks.many(0, 80) + "zz;", 2, 242);
        Checks.read(ENDINGS, "a=;b=;c=;d=;e=;f=;g=;h=;", 8);
        Checks.faulty(ENDINGS, "a=;b=;c=;d=;e=;f=;g=;h=; i=;", 2, 25);
        Checks.read(SAME, Checks.many(0, 40) + ";", 40);
        Checks.faulty(SAME, Checks.many(0, 40) + "\nzz;", 2, 121);
        Checks.read(GENERAL, Checks.prose(240), 240);
        Checks.faulty(GENERAL, Checks.prose(240) + ".. z", 2, 483);
        Checks.read(DOC, Checks.prose(240), 0);
        Checks.faulty(DOC, Checks.prose(240) + ". z z", 2, 482);
        Checks.read(PATTERN, text(12, '.'), 12);
        Checks.faulty(PATTERN, text(12, '.') + " .", 2, 13);
        Checks.faulty(PATTERN, "((((", 1, 4);
        Checks.faulty(PATTERN, "(((( (", 2, 5);
    }

    private static void lexiconLines() {
        says("LEXICON: { LINE }, LINE: KIND \":\" WORD { WORD } \";\"");
        Checks.read(LEXICON, "", 0);
        Checks.read(LEXICON, "n:a;", 1);
        Checks.read(LEXICON, "n:a b;v:c;", 3);
        Checks.read(LEXICON, "n:a;n:b c;n:d;", 4);
        Checks.faulty(LEXICON, ";", 1, 0);
        Checks.faulty(LEXICON, ":a;", 1, 0);
        Checks.faulty(LEXICON, "n a;", 1, 2);
        Checks.faulty(LEXICON, "n;", 1, 1);
        Checks.faulty(LEXICON, "n:;", 1, 2);
        Checks.faulty(LEXICON, "n::a;", 1, 2);
        Checks.faulty(LEXICON, "n:a v:b;", 1, 5);
        Checks.faulty(LEXICON, "n:a;;", 1, 4);
        Checks.faulty(LEXICON, "n:a;b", 1, 4);
        Checks.faulty(LEXICON, "n:a;v", 1, 5);
        Checks.faulty(LEXICON, "n:a;v:", 1, 6);
    }

    private static void lexiconKinds() {
        says("(KIND: one of n a v p d o, a WORD of one letter):");
        String kinds = "navpdo";
        for (int i = 0; i < 6; i++) {
            Checks.read(LEXICON, kinds.charAt(i) + ":a;", 1);
            Checks.faulty(LEXICON, text(2, kinds.charAt(i)) + ":a;", 1, 0);
            Checks.faulty(LEXICON, kinds.charAt(i) + " " + kinds.charAt(i) + ":a;", 1, 2);
        }
        Checks.faulty(LEXICON, "x:a;", 1, 0);
        Checks.faulty(LEXICON, "N:a;", 1, 0);
        Checks.faulty(LEXICON, "n:a;x:b;", 1, 4);
        Checks.faulty(LEXICON, "na:a;", 1, 0);
    }

    private static void kindsAre(TermDraw x, String words, String kinds) {
        due("doc", Checks.doc(x, words), x.look(3) - 1);
        for (int i = 0; i < kinds.length(); i++) {
            due("KIND of WORD " + i + " of " + words, x.kindAt(x.look(3) - 1, i), kinds.charAt(i));
        }
        x.undo();
    }

    private static void lexiconToldAgain() {
        says("WORDS are of that KIND (told again: of the latest);");
        TermDraw x = new TermDraw();
        Checks.taken(x, LEXICON, "n:aa bb aa;v:aa;", 2);
        kindsAre(x, "aa bb cc", "vnx");
        Checks.taken(x, LEXICON, "d:bb cc;o:aa;p:aa;", 3);
        kindsAre(x, "aa bb cc", "pdd");
        Checks.taken(x, LEXICON, "", 3);
        kindsAre(x, "aa bb cc", "pdd");
        Checks.refused(x, LEXICON, "a:aa bb cc dd", 1, 13);
        kindsAre(x, "aa bb cc dd", "pddx");
    }

    private static void lexiconFull() {
        says("80 WORDS at most (2: one more that is new).");
        Checks.read(LEXICON, "n:" + Checks.many(0, 79) + ";", 79);
        Checks.read(LEXICON, "n:" + Checks.many(0, 80) + ";", 80);
        Checks.faulty(LEXICON, "n:" + Checks.many(0, 81) + ";", 2, 2 + 240);
        TermDraw x = new TermDraw();
        Checks.taken(x, LEXICON, "n:" + Checks.many(0, 79) + ";", 79);
        Checks.refused(x, LEXICON, "n:zz zy;", 2, 5);
        due("79 stay", x.look(0), 79);
        Checks.taken(x, LEXICON, "n:aa ab ac zz;", 80);
        Checks.refused(x, LEXICON, "v:zy;", 2, 2);
        Checks.refused(x, LEXICON, "v:aa zz zy;", 2, 8);
        due("80 stay", x.look(0), 80);
        kindsAre(x, "aa zz zy", "nnx");
        Checks.taken(x, LEXICON, "v:" + Checks.many(0, 79) + "zz aa;", 80);
        kindsAre(x, "aa zz zy", "vvx");
        x.undo();
        x.undo();
        Checks.taken(x, LEXICON, "a:zy;", 80);
        kindsAre(x, "aa zz zy", "nxa");
    }

    private static void endingsLines() {
        says("ENDINGS: { WORD \"=\" [ WORD ] \";\" },");
        Checks.read(ENDINGS, "", 0);
        Checks.read(ENDINGS, "s=;", 1);
        Checks.read(ENDINGS, "s=t;", 1);
        Checks.read(ENDINGS, "s=;s=;s=s;", 3);
        Checks.faulty(ENDINGS, "=;", 1, 0);
        Checks.faulty(ENDINGS, ";", 1, 0);
        Checks.faulty(ENDINGS, "s;", 1, 1);
        Checks.faulty(ENDINGS, "s t=;", 1, 2);
        Checks.faulty(ENDINGS, "s=t u;", 1, 4);
        Checks.faulty(ENDINGS, "s==;", 1, 2);
        Checks.faulty(ENDINGS, "s=;;", 1, 3);
        Checks.faulty(ENDINGS, "s=;t", 1, 4);
        Checks.faulty(ENDINGS, "s=t", 1, 3);
    }

    private static void endingsFull() {
        says("8 at most (2: the ninth's WORD),");
        String seven = "a=;b=;c=;d=;e=;f=;g=;";
        Checks.read(ENDINGS, seven, 7);
        Checks.read(ENDINGS, seven + "hh=hh;", 8);
        Checks.faulty(ENDINGS, seven + "h=;i=;", 2, 24);
        Checks.faulty(ENDINGS, seven + "h=;a=;", 2, 24);
        Checks.faulty(ENDINGS, seven + "h=; i", 2, 25);
        Checks.faulty(ENDINGS, seven + "h=;;", 1, 24);
        Checks.faulty(ENDINGS, seven + "h=", 1, 23);
        TermDraw x = told("n:cell;", seven + "s=;", "");
        base(x, "cells", "cell");
        Checks.refused(x, ENDINGS, seven + "h=;i=;", 2, 24);
        due("8 stay", x.look(1), 8);
        base(x, "cells", "cell");
    }

    private static void endingsInPlace() {
        says("in place of those told ahead. SAME:");
        String eight = "a=;b=;c=;d=;e=;f=;g=;h=;";
        TermDraw x = told("n:cell;", "s=;", "");
        base(x, "cells", "cell");
        Checks.taken(x, ENDINGS, eight, 8);
        base(x, "cells", "cells");
        base(x, "cellh", "cell");
        Checks.taken(x, ENDINGS, "s=;b=;c=;d=;e=;f=;g=;h=;", 8);
        base(x, "cells", "cell");
        base(x, "cella", "cella");
        Checks.taken(x, ENDINGS, "", 0);
        due("ENDINGS", x.look(1), 0);
        base(x, "cells", "cells");
    }

    private static void sameLines() {
        says("SAME: { WORD WORD { WORD } \";\" }:");
        Checks.read(SAME, "", 0);
        Checks.faulty(SAME, ";", 1, 0);
        Checks.faulty(SAME, "a;", 1, 1);
        Checks.read(SAME, "a b;", 2);
        Checks.read(SAME, "a b c;", 3);
        Checks.read(SAME, "a b;c d e;f g;", 7);
        Checks.faulty(SAME, "a b;c;", 1, 5);
        Checks.faulty(SAME, "a b;;", 1, 4);
        Checks.faulty(SAME, "a b", 1, 3);
        Checks.faulty(SAME, "a b;c", 1, 5);
        Checks.faulty(SAME, "a. b;", 1, 1);
        Checks.faulty(SAME, "a b:c;", 1, 3);
    }

    private static void same(String text, String words, String bases) {
        TermDraw x = told("", "", text);
        String[] word = words.split(" ");
        String[] base = bases.split(" ");
        for (int i = 0; i < word.length; i++) {
            base(x, word[i], base[i]);
        }
    }

    private static void sameAsTheFirst() {
        says("all behind the first one of a line are the same as it is"
                + " (if that is the same as another one by a line ahead: as that one);");
        same("a b c d;", "a b c d e", "a a a a e");
        same("a b;b c;", "a b c", "a a a");
        same("a b;b c;c d;", "a b c d", "a a a a");
        same("b c;a b;", "a b c", "a a b");
        same("a b;c d;b d e;", "a b c d e", "a a c c a");
        same("a b;c a;", "a b c", "c a c");
        same("a b;c a;b d;a e;", "a b c d e", "c a c a c");
        same("a b;b a;", "a b", "a a");
        same("abcdefghij abcdefghik;", "abcdefghij abcdefghik abcdefghi", "abcdefghij abcdefghij abcdefghi");
    }

    private static void sameInPlace() {
        says("in place of those told ahead; 40");
        TermDraw x = told("", "", "a b c;");
        Checks.taken(x, SAME, "d e;b f;", 4);
        base(x, "b", "b");
        base(x, "c", "c");
        base(x, "e", "d");
        // b is the same as none any more
        base(x, "f", "b");
        Checks.taken(x, SAME, Checks.many(0, 40) + ";", 40);
        Checks.taken(x, SAME, Checks.many(40, 40) + ";", 40);
        base(x, "ab", "ab");
        base(x, "bp", "bo");
        Checks.refused(x, SAME, "a b;c", 1, 5);
        due("WORDS of SAME stay", x.look(2), 40);
        base(x, "bp", "bo");
        base(x, "b", "b");
        Checks.taken(x, SAME, "", 0);
        due("WORDS of SAME", x.look(2), 0);
        base(x, "bp", "bp");
    }

    private static void sameFull() {
        says("40 WORDS at most, each as often as it stands there.");
        Checks.read(SAME, Checks.many(0, 39) + ";", 39);
        Checks.read(SAME, Checks.many(0, 40) + ";", 40);
        Checks.faulty(SAME, Checks.many(0, 41) + ";", 2, 120);
        Checks.read(SAME, "a b;".repeat(20), 40);
        Checks.faulty(SAME, "a b;".repeat(20) + "a b;", 2, 80);
        Checks.faulty(SAME, "a b;".repeat(19) + "a b a;", 2, 80);
        Checks.faulty(SAME, "a b;".repeat(19) + "a b c d;", 2, 80);
        Checks.read(SAME, "a" + " a".repeat(39) + ";", 40);
        Checks.faulty(SAME, "a" + " a".repeat(40) + ";", 2, 80);
        Checks.faulty(SAME, Checks.many(0, 38) + ";a b c;", 2, 119);
        Checks.faulty(SAME, Checks.many(0, 39) + ";a b;", 2, 120);
    }

    private static void sameAlready() {
        says("(A WORD that is the same as one already stays so;");
        same("a b;c b;", "a b c", "a a c");
        same("a b;c b d;", "a b c d", "a a c c");
        same("a b b;c b;d b;", "b", "a");
        same("a b;b c;d c b;", "b c", "a a");
        says("one behind itself is the same as none by that.)");
        same("a a;", "a", "a");
        same("a a;b a;", "a b", "b b");
        same("a b a;c a;", "a b c", "c a c");
        same("a a b;", "a b", "a a");
        TermDraw x = told("n:cell;", "s=;", "cells cells;");
        base(x, "cells", "cell");
        Checks.taken(x, SAME, "cells a cells;", 3);
        base(x, "cells", "cell");
        base(x, "a", "cells");
        // of the second line the first is as cells is, and that stands behind it
        Checks.taken(x, SAME, "cells a;a cells;", 4);
        base(x, "cells", "cell");
        Checks.taken(x, SAME, "cells a;a cells b;c cells;", 7);
        base(x, "cells", "c");
        base(x, "b", "cells");
    }

    private static void docSentences() {
        says("DOC: { WORD | \".\" }: SENTENCES end at each \".\" and at the end;");
        String[] text = {"", ".", "...", "a", "a.", ".a", "a b", "a.b", "a..b", ". a b . . c d.", "a.b.c"};
        int[] words = {0, 0, 0, 1, 1, 1, 2, 2, 2, 4, 3};
        int[] sentences = {0, 0, 0, 1, 1, 1, 1, 2, 2, 2, 3};
        int[] matches = {0, 0, 0, 0, 0, 0, 1, 0, 0, 2, 0};
        for (int i = 0; i < text.length; i++) {
            TermDraw x = new TermDraw();
            Checks.text(x, PATTERN, ".*");
            Checks.taken(x, DOC, text[i], 0);
            due("WORDS of <" + text[i] + ">", x.of(0, 0), words[i]);
            due("SENTENCES of <" + text[i] + ">", x.of(0, 1), sentences[i]);
            due("MATCHES of <" + text[i] + ">", x.of(0, 2), matches[i]);
        }
        TermDraw x = new TermDraw();
        Checks.text(x, PATTERN, ".*");
        Checks.doc(x, "a");
        Checks.doc(x, "b");
        due("the end of a DOC ends its SENTENCE", x.match(NONE, 0), 0);
        Checks.faulty(DOC, "a,b", 1, 1);
    }

    private static void docsFull() {
        says("8 DOCS at most, numbered from 0 on;");
        TermDraw x = new TermDraw();
        for (int doc = 0; doc < 8; doc++) {
            due("DOCS ahead", x.look(3), doc);
            Checks.taken(x, DOC, "a", doc);
            due("the DOC", x.of(doc, 0), 1);
            due("none behind it", x.of(doc + 1, 0), NONE);
        }
        due("ninth", Checks.doc(x, "a"), -2);
        due("8 stay", x.look(3), 8);
        due("WORDS stay", x.look(4), 8);
        due("drop", x.drop(3), 7);
        Checks.taken(x, DOC, "b", 7);
        due("ninth", Checks.doc(x, ""), -2);
        wordsOf(x, 7, "b");
    }

    private static void docWordsFull() {
        says("240 WORDS of all DOCS together at most (2: at the 241st).");
        Checks.read(DOC, Checks.prose(239), 0);
        Checks.read(DOC, Checks.prose(240), 0);
        Checks.faulty(DOC, Checks.prose(241), 2, 480);
        TermDraw x = new TermDraw();
        Checks.taken(x, DOC, Checks.prose(100), 0);
        Checks.taken(x, DOC, Checks.prose(139), 1);
        due("WORDS", x.look(4), 239);
        Checks.refused(x, DOC, "a b", 2, 2);
        due("239 stay", x.look(4), 239);
        due("DOCS stay", x.look(3), 2);
        Checks.taken(x, DOC, "..a..", 2);
        due("240", x.look(4), 240);
        Checks.refused(x, DOC, ". b", 2, 2);
        Checks.taken(x, DOC, " ... ", 3);
        due("240 stay", x.look(4), 240);
        due("drop", x.drop(0), 3);
        Checks.taken(x, DOC, Checks.prose(100), 3);
        Checks.refused(x, DOC, "a", 2, 0);
        // 240 unlike ones, and 240 others behind them
        TermDraw y = new TermDraw();
        Checks.text(y, PATTERN, ".*");
        for (int from = 0; from <= 240; from += 240) {
            for (int third = 0; third < 3; third++) {
                Checks.taken(y, DOC, Checks.many(from + 80 * third, 80), third);
            }
            due("TERMS of unlike WORDS", y.told(NONE, 0), 3 * (79 + 78 + 77 + 76));
            y.term(0, false);
            Checks.due("the first TERM", Checks.slate(y), Checks.many(from, 2).trim());
            due("drop", y.drop(0) + y.drop(0) + y.drop(0), 2 + 1);
        }
        due("GENERAL has its own", Checks.text(x, GENERAL, Checks.prose(240)), 240);
    }

    private static void general() {
        says("GENERAL: likewise, in place of that told ahead, 240 WORDS at most.");
        Checks.read(GENERAL, "", 0);
        Checks.read(GENERAL, ". .", 0);
        Checks.read(GENERAL, "a.b c..", 3);
        Checks.faulty(GENERAL, "a;", 1, 1);
        Checks.read(GENERAL, Checks.prose(239), 239);
        Checks.read(GENERAL, Checks.prose(240), 240);
        Checks.faulty(GENERAL, Checks.prose(241), 2, 480);
        TermDraw x = new TermDraw();
        Checks.taken(x, DOC, Checks.prose(240), 0);
        Checks.taken(x, GENERAL, Checks.prose(240), 240);
        Checks.taken(x, GENERAL, Checks.prose(240), 240);
        Checks.refused(x, GENERAL, Checks.prose(241), 2, 480);
        due("240 stay", x.look(5), 240);
        Checks.taken(x, GENERAL, "a", 1);
        due("in place", x.look(5), 1);
        Checks.taken(x, GENERAL, "", 0);
        due("in place", x.look(5), 0);
    }

    /** How many stretches of 1 to 5 of a DOC are rows of a PATTERN. */
    private static void rows(String pattern, String doc, int want) {
        TermDraw x = new TermDraw();
        Checks.text(x, LEXICON, "n:nn;a:aa;v:vv;p:pp;d:dd;o:oo;");
        x.lengths(1, 5);
        due("text(4) of " + pattern, Checks.text(x, PATTERN, pattern) < 0 ? 1 : 0, 0);
        Checks.doc(x, doc);
        due("MATCHES of " + pattern + " in " + doc, x.match(NONE, 0), want);
    }

    private static void patternRows() {
        says("PATTERN: ALT. ALT: ROW { \"|\" ROW }. ROW: { ITEM }.");
        Checks.read(PATTERN, "", 0);
        Checks.read(PATTERN, "|", 0);
        Checks.read(PATTERN, "||", 0);
        Checks.read(PATTERN, "n|", 1);
        Checks.read(PATTERN, "|n", 1);
        Checks.read(PATTERN, "n||a", 2);
        Checks.read(PATTERN, "()", 0);
        Checks.read(PATTERN, "(|)", 0);
        Checks.faulty(PATTERN, ")", 1, 0);
        Checks.faulty(PATTERN, "n|)", 1, 2);
        Checks.faulty(PATTERN, "(n", 1, 2);
        Checks.faulty(PATTERN, "(n))", 1, 3);
        rows("", "nn aa", 0);
        rows("|", "nn aa", 0);
        rows("n|", "nn aa", 1);
        rows("n||a", "nn aa", 2);
        rows("na|", "nn aa", 1);
        rows("n(|a)", "nn aa", 2);
        rows("navpd", "nn aa vv pp dd oo", 1);
        rows("avpdo", "nn aa vv pp dd oo", 1);
        // six KINDS are no row of 1 to 5
        rows("navpdo", "nn aa vv pp dd oo", 0);
        // a PATTERN that was told goes
        TermDraw x = new TermDraw();
        Checks.doc(x, "b c");
        Checks.text(x, PATTERN, "xx");
        due("MATCHES", x.match(NONE, 0), 1);
        Checks.refused(x, PATTERN, "x|x)", 1, 3);
        due("what was told stays", x.match(NONE, 0), 1);
        Checks.taken(x, PATTERN, "", 0);
        due("MATCHES", x.match(NONE, 0), 0);
    }

    private static void patternItems() {
        says("ITEM: ( KIND | \".\" | \"(\" ALT \")\" ) [ \"*\" | \"+\" | \"?\" ].");
        Checks.read(PATTERN, "n*", 1);
        Checks.read(PATTERN, ".+", 1);
        Checks.read(PATTERN, "(n)?", 1);
        Checks.read(PATTERN, "()*()+()?", 0);
        String[] behind = {"*", "+", "?"};
        for (String c : behind) {
            Checks.faulty(PATTERN, c, 1, 0);
            Checks.faulty(PATTERN, "n|" + c, 1, 2);
            Checks.faulty(PATTERN, "(" + c + ")", 1, 1);
            Checks.faulty(PATTERN, "n*" + c, 1, 2);
            Checks.faulty(PATTERN, "n+" + c, 1, 2);
            Checks.faulty(PATTERN, "n?" + c, 1, 2);
            Checks.faulty(PATTERN, "(n)*" + c, 1, 4);
        }
        // none, one, two and more
        rows("an*v", "aa vv", 1);
        rows("an*v", "aa nn vv", 1);
        rows("an*v", "aa nn nn nn vv", 1);
        rows("an*v", "aa nn nn nn nn vv", 0);
        rows("an+v", "aa vv", 0);
        rows("an+v", "aa nn vv", 1);
        rows("an+v", "aa nn nn vv", 1);
        rows("an?v", "aa vv", 1);
        rows("an?v", "aa nn vv", 1);
        rows("an?v", "aa nn nn vv", 0);
        rows("a(nv)?", "aa nn vv", 2);
        rows("a(nv)+", "aa nn vv nn vv", 2);
        rows("(a|n)+", "aa nn", 3);
        rows("(a*n*)+", "aa nn aa", 6);
        rows("(a?)*", "aa aa", 3);
        rows("()+a", "aa", 1);
        rows("n(av)", "nn nn aa vv", 1);
        rows("p?(nv)a", "nn nn vv aa", 1);
        rows("()n", "nn", 1);
    }

    private static void patternLetters() {
        says("(Here blanks may stand between all; letters are KINDS each by itself, x, too; \".\" is any;");
        Checks.read(PATTERN, " ( n | a ) * \n n ", 3);
        Checks.read(PATTERN, "n *", 1);
        Checks.faulty(PATTERN, "n * *", 1, 4);
        Checks.read(PATTERN, "nav", 3);
        Checks.read(PATTERN, "n a v", 3);
        Checks.read(PATTERN, "xx", 2);
        rows("n n", "nn nn", 1);
        rows("nn", "nn nn", 1);
        rows("x", "nn zz", 1);
        rows("xn", "zz nn", 1);
        String kinds = "navpdox";
        for (int i = 0; i < kinds.length(); i++) {
            String word = text(2, kinds.charAt(i));
            rows(".", word, 1);
            rows("" + kinds.charAt(i), word, 1);
            rows("" + kinds.charAt((i + 1) % 7), word, 0);
        }
    }

    private static void patternFull() {
        says("12 KINDS and \".\" at most, 4 \"(\" open at most: 2 at the one too many.)");
        Checks.read(PATTERN, "nnnnnnnnnnn", 11);
        Checks.read(PATTERN, "nnnnnnnnnnnn", 12);
        Checks.faulty(PATTERN, "nnnnnnnnnnnnn", 2, 12);
        Checks.read(PATTERN, "nnnnnn......", 12);
        Checks.faulty(PATTERN, "............n", 2, 12);
        Checks.read(PATTERN, "((n|.)*a+)?n|n|n|n|n|n|n|n|n", 12);
        Checks.faulty(PATTERN, "n|n|n|n|n|n|n|n|n|n|n|n|()*n", 2, 27);
        Checks.read(PATTERN, "nnnnnnnnnnnn()*|", 12);
        Checks.read(PATTERN, "(((n)))", 1);
        Checks.read(PATTERN, "((((n))))", 1);
        Checks.faulty(PATTERN, "(((((n)))))", 2, 4);
        Checks.faulty(PATTERN, "(((((", 2, 4);
        Checks.read(PATTERN, "(((())))((((n))))", 1);
        Checks.read(PATTERN, "(((()()()()()())))", 0);
        Checks.faulty(PATTERN, "(((()(()))))", 2, 6);
        Checks.read(PATTERN, "()".repeat(300), 0);
        rows("((((n))))a", "nn aa", 1);
        rows("(((a|(n))+))?", "nn aa", 3);
        rows("....................".substring(0, 12), "nn aa", 0);
        rows(".?.?.?.?.?.?.?.?.?.?.?.?", "nn aa vv", 6);
        rows("n|a|v|p|d|o|x|n|a|v|p|o", "oo", 1);
    }

    private static void baseOfSame() {
        says("BASE of a WORD: the one it is the SAME as, if one was told;");
        base("n:cell;", "s=;", "", "cells", "cell");
        base("n:cell;", "s=;", "wall cells;", "cells", "wall");
        base("n:cell wall;", "s=;", "wall cell;", "cell", "wall");
        // the one it is the SAME as is its BASE, whatever ENDING that one has
        base("n:wall;", "s=;", "walls cell;", "cell", "walls");
        base("", "", "a b;c a;", "b", "a");
    }

    private static void baseByEnding() {
        says("else by the first ENDING (in the order told) that it has at its end,");
        base("n:citie city;", "s=;ies=y;", "", "cities", "citie");
        base("n:citie city;", "ies=y;s=;", "", "cities", "city");
        base("n:city;", "s=;ies=y;", "", "cities", "city");
        base("n:citie;", "ies=y;s=;", "", "cities", "citie");
        base("n:city;", "es=y;ies=y;", "", "cities", "city");
        base("n:cell;", "a=;b=;c=;d=;e=;f=;g=;s=;", "", "cells", "cell");
        base("n:cell;", "ss=;", "", "cells", "cells");
        base("n:cell;", "s=;", "", "cellss", "cellss");
        base("n:cell;", "s=;", "", "cellst", "cellst");
        base("n:cell;", "s=;s=;", "", "cells", "cell");
        base("n:abcdefghi;", "s=;", "", "abcdefghis", "abcdefghi");
        base("n:abcdefghi;", "s=;", "", "abcdefghit", "abcdefghit");
        base("n:cell cello;", "s=o;s=;", "", "cells", "cello");
    }

    private static void baseTwoLetters() {
        says("with two letters at least ahead of that,");
        base("n:a;", "s=;", "", "as", "as");
        base("n:ab;", "s=;", "", "abs", "ab");
        base("n:abc;", "s=;", "", "abcs", "abc");
        base("n:b;", "abs=b;", "", "abs", "abs");
        base("n:aa;", "s=a;", "", "s", "s");
        base("n:aa;", "s=a;", "", "as", "as");
        base("n:aaa;", "s=a;", "", "aas", "aaa");
        base("n:abx;", "cdefghij=x;", "", "abcdefghij", "abx");
        base("n:ax;", "bcdefghij=x;", "", "abcdefghij", "abcdefghij");
        base("n:x;", "abcdefghij=x;", "", "abcdefghij", "abcdefghij");
        base("n:ab;", "bs=b;s=;", "", "abs", "ab");
    }

    private static void baseOfLexicon() {
        says("and by which (that put in place of it) it becomes a WORD of the LEXICON:");
        base("", "s=;", "", "cells", "cells");
        base("n:cel;", "s=;", "", "cells", "cells");
        base("d:cell;", "s=;", "", "cells", "cell");
        base("n:cells;", "s=;", "", "cells", "cells");
        base("n:cells;", "s=s;", "", "cells", "cells");
        base("n:abcdefgh;", "s=efgh;", "", "abcds", "abcdefgh");
        base("n:abcdefghij;", "s=cdefghij;", "", "abs", "abcdefghij");
        base("n:abcdefghij;", "s=bcdefghij;", "", "abs", "abs");
        base("n:abcdefghij;", "s=defghij;", "", "abcs", "abcdefghij");
        // eleven letters are no WORD
        base("n:abcdefghij abcd;", "s=efghijk;t=;", "", "abcds", "abcds");
        base("n:abcdefghij;", "j=jk;", "", "abcdefghij", "abcdefghij");
        base("n:abcdefghi;", "j=;", "", "abcdefghij", "abcdefghi");
        says("that WORD, or what that is the SAME as;");
        base("n:cell;", "s=;", "cyte cell;", "cells", "cyte");
        base("n:cell;", "s=;", "cyte cell;b cyte;", "cells", "cyte");
        // not the BASE of that WORD by an ENDING
        base("n:cells cell;", "ed=;s=;", "", "cellsed", "cells");
        base("n:cells cell;", "ed=;s=;", "", "cells", "cell");
        base("n:cells;", "s=s;", "a b;", "cells", "cells");
    }

    private static void baseItself() {
        says("else itself.");
        base("", "", "", "a", "a");
        base("", "", "", "abcdefghij", "abcdefghij");
        base("n:walls;", "s=;", "", "walls", "walls");
        base("n:walls wall;", "", "a wall;", "walls", "walls");
    }

    private static void kindOfWord() {
        says("KIND of a WORD: as the LEXICON has it, else as it has its BASE, else x.");
        TermDraw x = told("v:walls;n:wall cell;d:cyte;", "s=;", "cyte cells form;cell rare;void gone;");
        // walls its own; wall; cells as cyte; form as cyte; rare as cell; gone has void, which has none
        kindsAre(x, "walls wall cells cell form cyte rare gone void zz", "vndnddnxxx");
        Checks.taken(x, LEXICON, "o:void;", 5);
        kindsAre(x, "gone void", "oo");
        Checks.taken(x, LEXICON, "p:gone;", 6);
        kindsAre(x, "gone void", "po");
        Checks.taken(x, SAME, "", 0);
        kindsAre(x, "cells form gone", "nxp");
        Checks.taken(x, ENDINGS, "", 0);
        kindsAre(x, "cells walls", "xv");
    }
}
