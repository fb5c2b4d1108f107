/** Each promise of the document by worked examples, its edges, and wrong inputs. */
public final class PromisesTest {
    private static final int NONE = TermDraw.NONE;

    private PromisesTest() {
    }

    public static void main(String[] args) {
        newObject();
        feed();
        end();
        textLexicon();
        textEndings();
        textSame();
        textGeneral();
        textPattern();
        patternMatches();
        doc();
        drop();
        fault();
        lengths();
        weight();
        wide();
        undo();
        of();
        word();
        bases();
        kindAt();
        match();
        term();
        slate();
        find();
        told();
        measure();
        share();
        rest();
        ranked();
        rank();
        longer();
        around();
        likely();
        head();
        cover();
        look();
        fullObject();
        Checks.close("PromisesTest");
    }

    /**
     * TERMS: 0 cell wall (4), 1 rare cell, 2 rare cell wall, 3 thick cell, 4 thick cell wall.
     * DOC 0: rare cell walls form thick cell wall . cytes of growth; DOC 1: cytes walls . cell walls
     */
    private static TermDraw fixture() {
        TermDraw x = new TermDraw();
        due("LEXICON", Checks.text(x, 0, "n: cell wall growth cyte; a: rare thick; v: form; p: of;"), 8);
        due("ENDINGS", Checks.text(x, 1, "s=; ed=;"), 2);
        due("SAME", Checks.text(x, 2, "cell cyte;"), 2);
        due("DOC 0", Checks.doc(x, "rare cell walls form thick cell wall. cytes of\ngrowth"), 0);
        due("DOC 1", Checks.doc(x, "cytes walls.cell walls."), 1);
        due("GENERAL", Checks.text(x, 3, "the cell wall. cells wall of it"), 7);
        return x;
    }

    private static void due(String what, long got, long want) {
        Checks.due(what, got, want);
    }

    private static void due(String what, boolean got, boolean want) {
        Checks.due(what, got, want);
    }

    private static void newObject() {
        due("NONE", TermDraw.NONE, -1);
        TermDraw x = new TermDraw();
        int[] want = {0, 0, 0, 0, 0, 0, 2, 5, 1, 0, 0};
        for (int what = 0; what < want.length; what++) {
            due("new look(" + what + ")", x.look(what), want[what]);
        }
        due("new match(NONE, 9)", x.match(NONE, 9), 0);
        due("new told(NONE, 99)", x.told(NONE, 99), 0);
        due("new slate(NONE)", x.slate(NONE), 0);
        due("new undo", x.undo(), false);
        for (int v = 1; v <= 5; v++) {
            due("new weight of " + v, x.weight(v, v), false);
        }
    }

    private static void feed() {
        TermDraw x = new TermDraw();
        due("feed", x.feed(0x61626364, 0x65666768, 0x696a2030, 0xff80007f, -1), 20);
        due("doc of bytes", x.doc(), NONE);
        due("fault place", x.fault(1), 11);
        due("feed", x.feed(0x20202020, 0x20202020, 0x20202020, 0x20202020, 0x2020202e), 20);
        due("the last byte is a dot", x.doc(), 0);
        due("feed", x.feed(0x61626364, 0x20202020, 0x20202020, 0x20202020, 0x2020207a), 20);
        due("doc", x.doc(), 1);
        due("words", x.of(1, 0), 2);
        x.word(1, 0, false);
        Checks.due("highest byte first", Checks.slate(x), "abcd");
        x.word(1, 1, false);
        Checks.due("last byte last", Checks.slate(x), "z");
        for (int i = 1; i <= 30; i++) {
            due("feed", x.feed(0, 0, 0, 0, 0), 20 * i);
        }
        due("feed beyond", x.feed(0, 0, 0, 0, 0), NONE);
        due("tape", x.look(10), 600);
        due("end", x.end(581), true);
        due("feed beyond by one", x.feed(0, 0, 0, 0, 0), NONE);
        due("tape stays", x.look(10), 581);
        due("end", x.end(580), true);
        due("feed to the brim", x.feed(0, 0, 0, 0, 0), 600);
        due("bytes from 128 on are no letters", Checks.doc(x, "a" + (char) 233), NONE);
        due("place", x.fault(1), 1);
        due("feeding is no change", x.look(9), 2);
    }

    private static void end() {
        TermDraw x = new TermDraw();
        due("end(0)", x.end(0), true);
        due("end(1)", x.end(1), false);
        due("end(-1)", x.end(-1), false);
        x.feed(0x61626364, 0x65666768, 0x696a2020, 0, 0);
        due("end(21)", x.end(21), false);
        due("end(MIN)", x.end(Integer.MIN_VALUE), false);
        due("end(MAX)", x.end(Integer.MAX_VALUE), false);
        due("tape", x.look(10), 20);
        due("end(20)", x.end(20), true);
        due("end(3)", x.end(3), true);
        due("tape", x.look(10), 3);
        due("end(4)", x.end(4), false);
        due("doc", x.doc(), 0);
        x.word(0, 0, false);
        Checks.due("first bytes alone", Checks.slate(x), "abc");
        due("no change by end", x.look(9), 1);
    }

    private static void textLexicon() {
        Checks.read(0, "", 0);
        Checks.read(0, " \n ", 0);
        Checks.read(0, "n:a;", 1);
        Checks.read(0, "n : a b a;a:b\n;", 2);
        Checks.read(0, "n:abcdefghij;", 1);
        Checks.faulty(0, "x:a;", 1, 0);
        Checks.faulty(0, "nn:a;", 1, 0);
        Checks.faulty(0, "n;", 1, 1);
        Checks.faulty(0, "n:;", 1, 2);
        Checks.faulty(0, "n:a", 1, 3);
        Checks.faulty(0, "n:a  ", 1, 5);
        Checks.faulty(0, "n", 1, 1);
        Checks.faulty(0, ":a;", 1, 0);
        Checks.faulty(0, "n:a b:c;", 1, 5);
        Checks.faulty(0, "n:a;;", 1, 4);
        Checks.faulty(0, "n:abcdefghijk;", 1, 2);
        Checks.faulty(0, "nabcdefghijk:a;", 1, 0);
        Checks.faulty(0, "n:a B;", 1, 4);
        Checks.faulty(0, "n:a\t;", 1, 3);
        TermDraw x = new TermDraw();
        due("79", Checks.text(x, 0, "n:" + Checks.many(0, 79) + ";"), 79);
        due("80 with one told again", Checks.text(x, 0, "v: aa zz ab;"), 80);
        due("told again alone", Checks.text(x, 0, "a: aa zz;"), 80);
        due("81st", Checks.text(x, 0, "v: aa zz zy qqqqqqqqqqq;"), NONE);
        due("81st fault", x.fault(0), 2);
        due("81st place", x.fault(1), 9);
        due("long 81st", Checks.text(x, 0, "v: qqqqqqqqqqq;"), NONE);
        due("least fault of one place", x.fault(0), 1);
        due("still 80", x.look(0), 80);
        Checks.doc(x, "aa ab");
        due("a fault tells no KIND", x.kindAt(0, 0), 'a');
        due("told again: the latest", x.kindAt(0, 1), 'v');
        due("no such text", Checks.text(x, 5, "n:a;"), -2);
        due("tape", x.look(10), 0);
        due("fault", x.fault(0), 0);
        due("fault place", x.fault(1), NONE);
        due("no such text", Checks.text(x, -1, "n:a;"), -2);
    }

    private static void textEndings() {
        Checks.read(1, "", 0);
        Checks.read(1, "s=;", 1);
        Checks.read(1, "s = ;ies=y ; s=;", 3);
        Checks.faulty(1, "s;", 1, 1);
        Checks.faulty(1, "=;", 1, 0);
        Checks.faulty(1, "s=a b;", 1, 4);
        Checks.faulty(1, "s=", 1, 2);
        Checks.faulty(1, "s=.;", 1, 2);
        Checks.faulty(1, "abcdefghijk=;", 1, 0);
        Checks.faulty(1, "s=abcdefghijk;", 1, 2);
        Checks.read(1, "a=;b=;c=;d=;e=;f=;g=;h=;", 8);
        Checks.faulty(1, "a=;b=;c=;d=;e=;f=;g=;h=; i=;", 2, 25);
        Checks.faulty(1, "a=;b=;c=;d=;e=;f=;g=;h=; abcdefghijk=;", 1, 25);
        Checks.faulty(1, "a=;b=;c=;d=;e=;f=;g=;h=;;", 1, 24);
        TermDraw x = new TermDraw();
        Checks.text(x, 1, "a=;b=;");
        due("in place", Checks.text(x, 1, "c=;"), 1);
        due("ENDINGS", x.look(1), 1);
        due("fault", Checks.text(x, 1, "c="), NONE);
        due("stays", x.look(1), 1);
        due("none told", Checks.text(x, 1, ""), 0);
        due("ENDINGS", x.look(1), 0);
    }

    private static void textSame() {
        Checks.read(2, "", 0);
        Checks.read(2, "a b;", 2);
        Checks.read(2, "a b a b ;c d;", 6);
        Checks.faulty(2, "a;", 1, 1);
        Checks.faulty(2, ";", 1, 0);
        Checks.faulty(2, "a b", 1, 3);
        Checks.faulty(2, "a b. ;", 1, 3);
        Checks.faulty(2, "a abcdefghijk;", 1, 2);
        Checks.read(2, Checks.many(0, 38) + ";a b;", 40);
        Checks.faulty(2, Checks.many(0, 40) + "a;", 2, 120);
        Checks.faulty(2, Checks.many(0, 40) + ";a b;", 2, 121);
        Checks.faulty(2, Checks.many(0, 39) + ";a ;", 1, 120);
        Checks.faulty(2, Checks.many(0, 39) + ";a aa;", 2, 120);
        Checks.faulty(2, Checks.many(0, 40) + "abcdefghijk;", 1, 120);
        TermDraw x = new TermDraw();
        Checks.text(x, 2, "a b c;");
        due("in place", Checks.text(x, 2, "d e;"), 2);
        Checks.doc(x, "b e");
        x.word(0, 0, true);
        Checks.due("not the same any more", Checks.slate(x), "b");
        x.word(0, 1, true);
        Checks.due("the same", Checks.slate(x), "d");
    }

    private static void textGeneral() {
        Checks.read(3, "", 0);
        Checks.read(3, "...", 0);
        Checks.read(3, "a b. c", 3);
        Checks.faulty(3, "a b; c", 1, 3);
        Checks.faulty(3, "a abcdefghijk", 1, 2);
        Checks.read(3, Checks.prose(240), 240);
        Checks.faulty(3, Checks.prose(240) + "a", 2, 480);
        Checks.faulty(3, Checks.prose(240) + ". abcdefghijk", 1, 482);
        TermDraw x = new TermDraw();
        Checks.text(x, 3, Checks.prose(240));
        due("in place", Checks.text(x, 3, "a b"), 2);
        due("GENERAL", x.look(5), 2);
    }

    private static void textPattern() {
        Checks.read(4, "", 0);
        Checks.read(4, "navpdox.", 8);
        Checks.read(4, "()", 0);
        Checks.read(4, " ( | ) * \n| ", 0);
        Checks.read(4, "nnnnnnnnnnnn", 12);
        Checks.read(4, "((((n))))", 1);
        Checks.read(4, "((((n)))).((((a))))?", 3);
        Checks.faulty(4, "nnnnnnnnnnn.n", 2, 12);
        Checks.faulty(4, "nnnnnnnnnnnnb", 1, 12);
        Checks.faulty(4, "nnnnnnnnnnnn.", 2, 12);
        Checks.faulty(4, "(((((n)))))", 2, 4);
        Checks.faulty(4, "n(((( (", 2, 6);
        Checks.faulty(4, "b", 1, 0);
        Checks.faulty(4, "*", 1, 0);
        Checks.faulty(4, "n**", 1, 2);
        Checks.faulty(4, "n|+", 1, 2);
        Checks.faulty(4, "(?)", 1, 1);
        Checks.faulty(4, ")", 1, 0);
        Checks.faulty(4, "n)", 1, 1);
        Checks.faulty(4, "(n", 1, 2);
        Checks.faulty(4, "(n ", 1, 3);
        Checks.faulty(4, "n;", 1, 1);
        Checks.faulty(4, "n" + (char) 0, 1, 1);
    }

    /** Of the words a a n n v x how many stretches of 1 to 5 are rows of a pattern. */
    private static void rows(String pattern, int want) {
        TermDraw x = new TermDraw();
        Checks.text(x, 0, "a:aa;n:nn;v:vv;");
        Checks.doc(x, "aa aa nn nn vv xx");
        x.lengths(1, 5);
        Checks.text(x, 4, pattern);
        due("matches of " + pattern, x.match(NONE, 0), want);
    }

    private static void patternMatches() {
        rows("", 0);
        rows("()", 0);
        rows("n", 2);
        rows("x", 1);
        rows(".", 6);
        rows("..", 5);
        rows(".*", 20);
        rows("(a|n)*n", 7);
        rows("a*n", 4);
        rows("a+n", 2);
        rows("a?n", 3);
        rows("a+n+", 4);
        rows("a|n|", 4);
        rows("(a|)(n|)", 5);
        rows("(an?)*", 5);
        rows("((a*)*n?)+v?", 15);
        rows("a a n n v", 1);
        rows("(a|n)+.", 10);
        rows("p", 0);
    }

    private static void doc() {
        Checks.read(-1, "", 0);
        Checks.read(-1, "a . b", 0);
        Checks.faulty(-1, "a, b", 1, 1);
        Checks.faulty(-1, "a abcdefghijk", 1, 2);
        TermDraw x = new TermDraw();
        for (int i = 0; i < 7; i++) {
            due("doc", Checks.doc(x, i == 0 ? Checks.prose(239) : "."), i);
        }
        due("241st", Checks.doc(x, "a. b"), NONE);
        due("241st fault", x.fault(0), 2);
        due("241st place", x.fault(1), 3);
        due("long 241st", Checks.doc(x, "a. abcdefghijk"), NONE);
        due("least fault", x.fault(0), 1);
        due("DOCS", x.look(3), 7);
        due("WORDS", x.look(4), 239);
        due("240", Checks.doc(x, "a"), 7);
        due("ninth", Checks.doc(x, "%"), -2);
        due("tape", x.look(10), 0);
        due("fault", x.fault(0), 0);
        due("fault place", x.fault(1), NONE);
    }

    private static void drop() {
        TermDraw x = new TermDraw();
        Checks.doc(x, "one. two");
        Checks.doc(x, "three");
        Checks.doc(x, "four five six. seven");
        due("drop(3)", x.drop(3), NONE);
        due("drop(-1)", x.drop(-1), NONE);
        due("drop(MAX)", x.drop(Integer.MAX_VALUE), NONE);
        due("changes", x.look(9), 3);
        due("drop(1)", x.drop(1), 2);
        due("words", x.look(4), 6);
        due("of(1, 0)", x.of(1, 0), 4);
        due("of(1, 1)", x.of(1, 1), 2);
        x.word(1, 0, false);
        Checks.due("one less", Checks.slate(x), "four");
        due("of(2, 0)", x.of(2, 0), NONE);
        due("drop(0)", x.drop(0), 1);
        x.word(0, 3, false);
        Checks.due("one less", Checks.slate(x), "seven");
        due("a DOC behind", Checks.doc(x, "eight"), 1);
        due("words", x.look(4), 5);
        due("drop(1)", x.drop(1), 1);
        due("drop(0)", x.drop(0), 0);
        due("drop(0)", x.drop(0), NONE);
    }

    private static void fault() {
        TermDraw x = new TermDraw();
        due("fault(0)", x.fault(0), 0);
        due("fault(1)", x.fault(1), NONE);
        Checks.text(x, 0, "n:a,");
        due("fault(0)", x.fault(0), 1);
        due("fault(1)", x.fault(1), 3);
        due("fault(2)", x.fault(2), NONE);
        due("fault(-1)", x.fault(-1), NONE);
        Checks.find(x, "a,b");
        x.undo();
        x.wide(2);
        due("of the latest text, doc", x.fault(1), 3);
        Checks.doc(x, "a");
        due("fault(0)", x.fault(0), 0);
        due("fault(1)", x.fault(1), NONE);
    }

    private static void lengths() {
        TermDraw x = fixture();
        due("as it is", x.lengths(2, 5), false);
        due("(0, 5)", x.lengths(0, 5), false);
        due("(1, 6)", x.lengths(1, 6), false);
        due("(3, 2)", x.lengths(3, 2), false);
        due("(6, 6)", x.lengths(6, 6), false);
        due("(MIN, MAX)", x.lengths(Integer.MIN_VALUE, Integer.MAX_VALUE), false);
        due("changes", x.look(9), 6);
        due("(2, 2)", x.lengths(2, 2), true);
        due("matches", x.match(NONE, 0), 6);
        due("(1, 2)", x.lengths(1, 2), true);
        due("matches", x.match(NONE, 0), 6 + 10);
        due("LEAST", x.look(6), 1);
        due("MOST", x.look(7), 2);
        due("(5, 5)", x.lengths(5, 5), true);
        due("matches", x.match(NONE, 0), 0);
    }

    private static void weight() {
        TermDraw x = fixture();
        due("(0, 1)", x.weight(0, 1), false);
        due("(6, 1)", x.weight(6, 1), false);
        due("(1, 10)", x.weight(1, 10), false);
        due("(1, -1)", x.weight(1, -1), false);
        due("as it is", x.weight(2, 2), false);
        due("changes", x.look(9), 6);
        due("WORTH", x.measure(0, 2, false), 6);
        due("(2, 9)", x.weight(2, 9), true);
        due("WORTH", x.measure(0, 2, false), 27);
        due("(2, 0)", x.weight(2, 0), true);
        due("WORTH", x.measure(0, 2, false), 0);
        due("WORTH of three", x.measure(2, 2, false), 3);
        due("undo", x.undo(), true);
        due("WORTH", x.measure(0, 2, false), 27);
    }

    private static void wide() {
        TermDraw x = fixture();
        due("4", x.wide(4), false);
        due("-1", x.wide(-1), false);
        due("as it is", x.wide(1), false);
        due("changes", x.look(9), 6);
        due("0", x.wide(0), true);
        due("AROUND", x.told(0, 8), 0);
        due("3", x.wide(3), true);
        due("WIDE", x.look(8), 3);
        // rare, form thick cell; thick, form, wall; none in the other DOC
        due("AROUND", x.told(0, 8), 5);
    }

    private static void undo() {
        TermDraw x = fixture();
        due("changes", x.look(9), 6);
        Checks.text(x, 0, "n:");
        x.lengths(9, 9);
        due("no change by a fault", x.look(9), 6);
        Checks.text(x, 0, "");
        due("a text that is read counts", x.look(9), 7);
        x.wide(2);
        due("changes", x.look(9), 8);
        x.weight(1, 0);
        due("8 at most", x.look(9), 8);
        x.drop(0);
        due("WORDS", x.look(4), 4);
        due("undo drop", x.undo(), true);
        due("WORDS", x.look(4), 14);
        x.word(0, 0, false);
        Checks.due("back in its place", Checks.slate(x), "rare");
        due("undo weight", x.undo(), true);
        due("weight is back", x.weight(1, 1), false);
        due("undo wide", x.undo(), true);
        due("WIDE", x.look(8), 1);
        due("undo text", x.undo(), true);
        due("undo GENERAL", x.undo(), true);
        due("GENERAL", x.look(5), 0);
        due("undo doc", x.undo(), true);
        due("DOCS", x.look(3), 1);
        due("undo doc", x.undo(), true);
        due("WORDS", x.look(4), 0);
        due("undo SAME", x.undo(), true);
        due("SAME", x.look(2), 0);
        due("nothing more", x.undo(), false);
        due("ENDINGS stay", x.look(1), 2);
        Checks.type(x, "abc");
        x.wide(0);
        x.undo();
        due("the tape stays", x.look(10), 3);
        Checks.text(x, 4, "n");
        x.undo();
        Checks.doc(x, "rare cell");
        due("PATTERN is back", x.match(NONE, 0), 1);
        x.lengths(1, 1);
        x.undo();
        due("LEAST", x.look(6), 2);
        due("MOST", x.look(7), 5);
    }

    private static void of() {
        TermDraw x = fixture();
        int[][] want = {{10, 2, 6, 5}, {4, 2, 2, 1}};
        for (int doc = 0; doc < 2; doc++) {
            for (int what = 0; what < 4; what++) {
                due("of(" + doc + ", " + what + ")", x.of(doc, what), want[doc][what]);
            }
        }
        due("of(0, 4)", x.of(0, 4), NONE);
        due("of(0, -1)", x.of(0, -1), NONE);
        due("of(2, 0)", x.of(2, 0), NONE);
        due("of(-1, 0)", x.of(-1, 0), NONE);
        Checks.doc(x, ". . a..b.");
        due("SENTENCES that have WORDS", x.of(2, 1), 2);
        Checks.doc(x, "..");
        due("none", x.of(3, 1), 0);
    }

    private static void word() {
        TermDraw x = fixture();
        due("word(0, 2)", x.word(0, 2, false), 5);
        Checks.due("word(0, 2)", Checks.slate(x), "walls");
        due("base", x.word(0, 2, true), 4);
        Checks.due("base", Checks.slate(x), "wall");
        due("word(1, 3)", x.word(1, 3, false), 5);
        due("word(0, 10)", x.word(0, 10, false), NONE);
        due("word(0, -1)", x.word(0, -1, false), NONE);
        due("word(2, 0)", x.word(2, 0, true), NONE);
        due("word(-1, 0)", x.word(-1, 0, true), NONE);
        due("word(0, MAX)", x.word(0, Integer.MAX_VALUE, true), NONE);
        Checks.due("the slate stays", Checks.slate(x), "walls");
    }

    private static void base(String lexicon, String endings, String same, String word, String want) {
        TermDraw x = new TermDraw();
        Checks.text(x, 0, lexicon);
        Checks.text(x, 1, endings);
        Checks.text(x, 2, same);
        Checks.doc(x, word);
        x.word(0, 0, true);
        Checks.due("BASE of " + word + " by <" + lexicon + "> <" + endings + "> <" + same + ">", Checks.slate(x), want);
    }

    private static void bases() {
        base("n:cell;", "s=;", "", "cells", "cell");
        base("n:cell;", "", "", "cells", "cells");
        base("v:form;", "s=;", "", "cells", "cells");
        base("n:ab;", "s=;", "", "abs", "ab");
        base("n:a;", "s=;", "", "as", "as");
        base("n:city;", "s=;ies=y;", "", "cities", "city");
        base("n:citie city;", "s=;ies=y;", "", "cities", "citie");
        base("n:citie city;", "ies=y;s=;", "", "cities", "city");
        base("n:cells cell;", "s=;", "", "cells", "cell");
        base("n:abzzzzzzzz;", "s=zzzzzzzz;", "", "abs", "abzzzzzzzz");
        base("n:abzzzzzzzz;", "s=zzzzzzzzz;", "", "abs", "abs");
        base("n:abcdefghij;", "ij=ij;", "", "abcdefghij", "abcdefghij");
        base("n:cell;", "cells=cell;", "", "cells", "cells");
        base("n:cell;", "s=;", "cyte cells;", "cells", "cyte");
        base("n:cell;", "s=;", "cyte cell;", "cells", "cyte");
        base("n:cell;", "s=;", "cells cyte;", "cells", "cell");
        base("", "", "a b;b c;", "c", "a");
        base("", "", "a b;c a;", "b", "a");
        base("", "", "a b;c a;", "a", "c");
        base("", "", "a b;c b;", "b", "a");
        base("", "", "a b;c b a;", "a", "c");
        base("n:cell;", "s=;", "cells cells;", "cells", "cell");
        base("n:cell;", "s=;", "cells a;a cells;", "cells", "cell");
        base("", "", "b b;a b;", "b", "a");
        base("", "", "a b a;c a;", "a", "c");
    }

    private static void kindAt() {
        TermDraw x = fixture();
        String want = "annvannnpn";
        for (int i = 0; i < want.length(); i++) {
            due("kindAt(0, " + i + ")", x.kindAt(0, i), want.charAt(i));
        }
        due("kindAt(0, 10)", x.kindAt(0, 10), NONE);
        due("kindAt(2, 0)", x.kindAt(2, 0), NONE);
        due("kindAt(0, -1)", x.kindAt(0, -1), NONE);
        Checks.text(x, 0, "v:walls;d:rare;");
        Checks.text(x, 2, "of growth;");
        Checks.doc(x, "unheard growth cyte cytes");
        due("as the LEXICON has it", x.kindAt(0, 2), 'v');
        due("of the latest", x.kindAt(0, 0), 'd');
        due("x", x.kindAt(2, 0), 'x');
        due("its own before that of its BASE", x.kindAt(2, 1), 'n');
        Checks.text(x, 2, "of unheard;");
        due("as it has its BASE", x.kindAt(2, 0), 'p');
    }

    private static void match() {
        TermDraw x = fixture();
        int[][] want = {{0, 0, 2, 1, 1}, {0, 0, 3, 2, 0}, {0, 1, 2, 0, 1}, {0, 4, 2, 3, 1},
            {0, 4, 3, 4, 0}, {0, 5, 2, 0, 1}, {1, 0, 2, 0, 0}, {1, 2, 2, 0, 0}};
        due("how many", x.match(NONE, -7), want.length);
        for (int m = 0; m < want.length; m++) {
            for (int what = 0; what < 5; what++) {
                due("match(" + m + ", " + what + ")", x.match(m, what), want[m][what]);
            }
        }
        due("match(8, 0)", x.match(8, 0), NONE);
        due("match(-2, 0)", x.match(-2, 0), NONE);
        due("match(0, 5)", x.match(0, 5), NONE);
        due("match(0, -1)", x.match(0, -1), NONE);
        x.drop(0);
        due("match(0, 0) then", x.match(0, 0), 0);
        due("how many then", x.match(NONE, 0), 2);
        TermDraw y = new TermDraw();
        Checks.text(y, 4, "xxx|x|xxxx");
        y.lengths(1, 5);
        Checks.doc(y, "a b c d");
        // (0,1) (0,3) (0,4) (1,1) (1,3) (2,1) (3,1)
        due("all but the longest are within", y.match(NONE, 0), 7);
        due("at its beginning", y.match(1, 4), 1);
        due("the longest", y.match(2, 4), 0);
        due("at its end", y.match(4, 4), 1);
        due("at its end", y.match(6, 4), 1);
    }

    private static void term() {
        TermDraw x = fixture();
        String[] want = {"cell wall", "rare cell", "rare cell wall", "thick cell", "thick cell wall"};
        String[] common = {"cell walls", "rare cell", "rare cell walls", "thick cell", "thick cell wall"};
        for (int t = 0; t < 5; t++) {
            Checks.due("term " + t, Checks.term(x, t, false), want[t]);
            Checks.due("common of " + t, Checks.term(x, t, true), common[t]);
        }
        due("term(5)", x.term(5, false), NONE);
        due("term(-1)", x.term(-1, true), NONE);
        Checks.due("the slate stays", Checks.slate(x), "thick cell wall");
        Checks.doc(x, "cytes walls");
        Checks.due("of equal ones the first by letters", Checks.term(x, 0, true), "cell walls");
        Checks.doc(x, "cytes walls");
        Checks.due("the most", Checks.term(x, 0, true), "cytes walls");
        TermDraw y = new TermDraw();
        y.lengths(1, 5);
        Checks.text(y, 4, "x*");
        Checks.doc(y, "ab abc. abcdefghij ab abcdefghij abcdefghij abcdefghij. b");
        Checks.due("beginning ahead", Checks.term(y, 0, false), "ab");
        Checks.due("then by the second word", Checks.term(y, 1, false), "ab abc");
        Checks.due("a word that is the beginning ahead", Checks.term(y, 2, false), "ab abcdefghij");
        Checks.due("a longer row", Checks.term(y, 3, false), "ab abcdefghij abcdefghij");
        Checks.due("the longest", Checks.term(y, 10, false), "abcdefghij ab abcdefghij abcdefghij abcdefghij");
        Checks.due("the last", Checks.term(y, y.told(NONE, 0) - 1, false), "b");
    }

    private static void slate() {
        TermDraw x = fixture();
        due("empty", x.slate(0), -2);
        x.term(0, false);
        due("slate(NONE)", x.slate(NONE), 9);
        due("slate(0)", x.slate(0), 'c');
        due("slate(4)", x.slate(4), ' ');
        due("slate(8)", x.slate(8), 'l');
        due("slate(9)", x.slate(9), -2);
        due("slate(-2)", x.slate(-2), -2);
        due("slate(MAX)", x.slate(Integer.MAX_VALUE), -2);
        x.drop(0);
        x.undo();
        Checks.doc(x, "of");
        due("stays", x.slate(NONE), 9);
    }

    private static void find() {
        TermDraw x = fixture();
        due("as it stands", Checks.find(x, "rare cell wall"), 2);
        due("by BASES", Checks.find(x, "\n cytes  walls "), 0);
        due("tape", x.look(10), 0);
        due("no TERM", Checks.find(x, "cell"), NONE);
        due("no TERM of known BASES", Checks.find(x, "wall cell"), NONE);
        due("unknown", Checks.find(x, "rare cell wall it"), NONE);
        due("no WORDS", Checks.find(x, ""), NONE);
        due("blanks", Checks.find(x, "  \n"), NONE);
        due("no row of WORDS", Checks.find(x, "cell wall."), NONE);
        due("tape", x.look(10), 0);
        due("another byte", Checks.find(x, "cell-wall"), NONE);
        due("too long a WORD", Checks.find(x, "cell wallllllllll"), NONE);
        due("six WORDS", Checks.find(x, "cell wall cell wall cell wall"), NONE);
        due("no change", x.look(9), 6);
        Checks.doc(x, "cell cell cell cell cell");
        due("five WORDS", Checks.find(x, "cell cell cell cyte cells"), 3);
        due("six WORDS", Checks.find(x, "cell cell cell cyte cells cell"), NONE);
    }

    private static void told() {
        TermDraw x = fixture();
        int[][] want = {{4, 2, 2, 2, 3, 2, 2, 3, 3, 2}, {1, 0, 1, 1, 1, 0, 2, 1, 1, 0}, {1, 1, 0, 0, 1, 0, 3, 1, 1, 1},
            {1, 0, 1, 1, 1, 0, 2, 1, 2, 3}, {1, 1, 0, 0, 1, 0, 3, 1, 1, 4}};
        due("how many", x.told(NONE, 77), 5);
        for (int t = 0; t < 5; t++) {
            for (int what = 0; what < 10; what++) {
                due("told(" + t + ", " + what + ")", x.told(t, what), want[t][what]);
            }
        }
        due("told(5, 0)", x.told(5, 0), NONE);
        due("told(-2, 0)", x.told(-2, 0), NONE);
        due("told(0, 10)", x.told(0, 10), NONE);
        due("told(0, -1)", x.told(0, -1), NONE);
        TermDraw y = new TermDraw();
        Checks.text(y, 4, "x*");
        Checks.doc(y, "a a a");
        Checks.text(y, 3, "a a a a. a");
        // TERMS a a (2), a a a (1)
        due("twice in it, LONGER once", y.told(0, 2), 1);
        due("TAKEN", y.told(0, 3), 1);
        due("IN GENERAL, one over the other", y.told(0, 5), 3);
        due("no TERM over a stop", y.told(1, 5), 2);
    }

    private static void measure() {
        TermDraw x = fixture();
        long[][] above = {{4, 2, 6, 32, 64, 126, 2}, {1, 0, 0, 8, 0, 2, 1}, {1, 1, 3, 8, 8, 64, 1},
            {1, 0, 0, 8, 0, 6, 1}, {1, 1, 3, 8, 8, 64, 1}};
        long[][] below = {{1, 1, 1, 45, 15, 25, 1}, {1, 1, 1, 15, 1, 25, 1}, {1, 1, 1, 15, 5, 25, 1},
            {1, 1, 1, 15, 1, 25, 1}, {1, 1, 1, 15, 5, 25, 1}};
        for (int t = 0; t < 5; t++) {
            for (int k = 0; k < 7; k++) {
                due("measure(" + t + ", " + k + ")", x.measure(t, k, false), above[t][k]);
                due("measure(" + t + ", " + k + ") below", x.measure(t, k, true), below[t][k]);
            }
        }
        due("measure(5, 0)", x.measure(5, 0, false), Long.MIN_VALUE);
        due("measure(-1, 0)", x.measure(-1, 0, true), Long.MIN_VALUE);
        due("measure(0, 7)", x.measure(0, 7, false), Long.MIN_VALUE);
        due("measure(0, -1)", x.measure(0, -1, true), Long.MIN_VALUE);
        TermDraw y = negative();
        // b: COUNT 1, two LONGER of COUNT 2 and 1: 1 less 3 by 2
        due("below 0", y.measure(0, 2, false), -1);
        due("below 0", y.measure(0, 2, true), 2);
    }

    /** TERMS 0 b (1, of the form d), 1 p b (2), 2 q b (1): LONGER than b is all that has b at its end. */
    private static TermDraw negative() {
        TermDraw y = new TermDraw();
        Checks.text(y, 0, "n:b;a:p q;v:d;");
        Checks.text(y, 2, "b d;");
        Checks.text(y, 4, "v|an");
        y.lengths(1, 2);
        Checks.doc(y, "p b. p b. q b. d");
        Checks.due("negative's first TERM", Checks.term(y, 0, false), "b");
        return y;
    }

    private static void share() {
        TermDraw x = fixture();
        for (int t = 0; t < 5; t++) {
            for (int k = 0; k < 7; k++) {
                float want = (float) x.measure(t, k, false) / (float) x.measure(t, k, true);
                due("share(" + t + ", " + k + ")", x.share(t, k), Float.floatToIntBits(want));
            }
        }
        due("32 by 45", x.share(0, 3), 0x3f360b61);
        due("6 by 1", x.share(0, 2), 0x40c00000);
        due("0", x.share(1, 1), 0);
        due("below 0", negative().share(0, 2), 0xbf000000);
        due("share(5, 0)", x.share(5, 0), NONE);
        due("share(-1, 0)", x.share(-1, 0), NONE);
        due("share(0, 7)", x.share(0, 7), NONE);
        due("share(0, -1)", x.share(0, -1), NONE);
    }

    private static void rest() {
        TermDraw x = fixture();
        for (int t = 0; t < 5; t++) {
            for (int k = 0; k < 7; k++) {
                double want = (double) x.measure(t, k, false) / (double) x.measure(t, k, true) % 1.5;
                due("rest(" + t + ", " + k + ")", x.rest(t, k), Double.doubleToLongBits(want));
            }
        }
        due("6 by 1", x.rest(0, 2), 0);
        due("2 by 1", x.rest(0, 1), 0x3fe0000000000000L);
        due("1 by 1", x.rest(1, 0), 0x3ff0000000000000L);
        TermDraw y = negative();
        due("-1 by 2", y.rest(0, 2), 0xbfe0000000000000L);
        y.weight(1, 3);
        due("-3 by 2 leaves nothing, below 0", y.rest(0, 2), 0x8000000000000000L);
        y.weight(1, 9);
        due("-9 by 2", y.rest(0, 2), 0x8000000000000000L);
        y.weight(1, 5);
        due("-5 by 2", y.rest(0, 2), 0xbff0000000000000L);
        y.weight(1, 0);
        due("0", y.rest(0, 2), 0);
        due("rest(5, 0)", x.rest(5, 0), NONE);
        due("rest(-1, 0)", x.rest(-1, 0), NONE);
        due("rest(0, 7)", x.rest(0, 7), NONE);
        due("rest(0, -1)", x.rest(0, -1), NONE);
    }

    private static final int[][] RANKS = {{0, 1, 2, 3, 4}, {0, 2, 4, 1, 3}, {0, 2, 4, 1, 3}, {0, 1, 2, 3, 4},
        {0, 2, 4, 1, 3}, {0, 2, 4, 3, 1}, {0, 1, 2, 3, 4}};

    private static void ranked() {
        TermDraw x = fixture();
        for (int k = 0; k < 7; k++) {
            for (int r = 0; r < 5; r++) {
                due("ranked(" + k + ", " + r + ")", x.ranked(k, r), RANKS[k][r]);
            }
        }
        due("ranked(0, 5)", x.ranked(0, 5), NONE);
        due("ranked(0, -1)", x.ranked(0, -1), NONE);
        due("ranked(7, 0)", x.ranked(7, 0), NONE);
        due("ranked(-1, 0)", x.ranked(-1, 0), NONE);
        x.weight(2, 0);
        due("by what is told now", x.ranked(2, 0), 2);
        due("of equal ones that of greater COUNT", x.ranked(2, 2), 0);
        due("then the lesser number", x.ranked(2, 3), 1);
    }

    private static void rank() {
        TermDraw x = fixture();
        for (int k = 0; k < 7; k++) {
            for (int r = 0; r < 5; r++) {
                due("rank(" + RANKS[k][r] + ", " + k + ")", x.rank(RANKS[k][r], k), r);
            }
        }
        due("rank(5, 0)", x.rank(5, 0), NONE);
        due("rank(-1, 0)", x.rank(-1, 0), NONE);
        due("rank(0, 7)", x.rank(0, 7), NONE);
        due("rank(0, -1)", x.rank(0, -1), NONE);
    }

    private static void longer() {
        TermDraw x = fixture();
        due("longer(0, NONE)", x.longer(0, NONE), 2);
        due("longer(0, 0)", x.longer(0, 0), 2);
        due("longer(0, 1)", x.longer(0, 1), 4);
        due("longer(0, 2)", x.longer(0, 2), NONE);
        due("longer(0, -2)", x.longer(0, -2), NONE);
        due("longer(1, 0)", x.longer(1, 0), 2);
        due("longer(2, NONE)", x.longer(2, NONE), 0);
        due("longer(2, 0)", x.longer(2, 0), NONE);
        due("longer(5, NONE)", x.longer(5, NONE), NONE);
        due("longer(-1, 0)", x.longer(-1, 0), NONE);
        Checks.doc(x, "cell thick wall");
        due("not one behind the other", x.longer(Checks.find(x, "cell wall"), NONE), 2);
    }

    private static void around() {
        TermDraw x = fixture();
        String[] want = {"form", "rare", "thick"};
        for (int i = 0; i < 3; i++) {
            due("around(0, " + i + ")", x.around(0, i), 1);
            Checks.due("around(0, " + i + ")", Checks.slate(x), want[i]);
        }
        due("around(0, 3)", x.around(0, 3), NONE);
        due("around(0, -1)", x.around(0, -1), NONE);
        due("around(5, 0)", x.around(5, 0), NONE);
        due("around(-1, 0)", x.around(-1, 0), NONE);
        Checks.due("the slate stays", Checks.slate(x), "thick");
        x.wide(3);
        // of the first MATCH rare, form thick cell; of the second wall form thick
        due("each time", x.around(0, 1), 2);
        Checks.due("each time", Checks.slate(x), "form");
        due("BASES", x.around(0, 0), 1);
        Checks.due("BASES", Checks.slate(x), "cell");
    }

    private static void likelyIs(TermDraw x, int i, String of, long above, long below) {
        x.word(0, i, true);
        Checks.due("on THE SLATE", Checks.slate(x), of);
        due("likely of " + of, x.likely(false), above);
        due("likely of " + of + ", below", x.likely(true), below);
    }

    private static void likely() {
        TermDraw x = fixture();
        due("no WORD", x.likely(false), NONE);
        due("no WORD", x.likely(true), NONE);
        likelyIs(x, 0, "rare", 1, 5);
        likelyIs(x, 2, "wall", 2, 5);
        likelyIs(x, 3, "form", 4, 5);
        likelyIs(x, 4, "thick", 1, 5);
        likelyIs(x, 1, "cell", 0, 1);
        likelyIs(x, 8, "of", 0, 1);
        x.term(0, false);
        due("two WORDS", x.likely(false), NONE);
        due("two WORDS", x.likely(true), NONE);
        x.around(0, 0);
        due("form", x.likely(false), 4);
        Checks.text(x, 4, "p");
        due("without TERMS", x.likely(false), 0);
        due("without TERMS", x.likely(true), 1);
        x.undo();
        x.drop(1);
        Checks.doc(x, "thick cyte");
        x.lengths(1, 2);
        // cell, cell wall, growth, rare cell, thick cell, wall: AROUND wall are form and cell
        x.word(0, 1, false);
        due("in lowest terms", x.likely(false), 1);
        due("in lowest terms", x.likely(true), 6);
    }

    private static void head() {
        TermDraw x = fixture();
        int[][] want = {{2, 2, 1}, {3, 6, 0}};
        due("how many", x.head(NONE, 55), 2);
        for (int h = 0; h < 2; h++) {
            for (int what = 0; what < 3; what++) {
                due("head(" + h + ", " + what + ")", x.head(h, what), want[h][what]);
            }
        }
        due("head(2, 0)", x.head(2, 0), NONE);
        due("head(-2, 0)", x.head(-2, 0), NONE);
        due("head(0, 3)", x.head(0, 3), NONE);
        due("head(0, -1)", x.head(0, -1), NONE);
    }

    private static void cover() {
        TermDraw x = fixture();
        int[] want = {0, 8, 9, 10, 10, 10};
        for (int n = 0; n < want.length; n++) {
            due("cover(2, " + n + ")", x.cover(2, n), want[n]);
        }
        due("cover(0, 2)", x.cover(0, 2), 9);
        due("cover(0, 3)", x.cover(0, 3), 9);
        due("cover(2, 6)", x.cover(2, 6), NONE);
        due("cover(2, -1)", x.cover(2, -1), NONE);
        due("cover(7, 0)", x.cover(7, 0), NONE);
        due("cover(-1, 0)", x.cover(-1, 0), NONE);
    }

    private static void look() {
        TermDraw x = fixture();
        Checks.type(x, "abc");
        int[] want = {8, 2, 2, 2, 14, 7, 2, 5, 1, 6, 3};
        for (int what = 0; what < want.length; what++) {
            due("look(" + what + ")", x.look(what), want[what]);
        }
        due("look(11)", x.look(11), NONE);
        due("look(-1)", x.look(-1), NONE);
    }

    /** 240 unlike WORDS in two DOCS, all stretches TERMS: nothing runs over. */
    private static void fullObject() {
        TermDraw x = new TermDraw();
        Checks.doc(x, Checks.many(0, 190));
        Checks.doc(x, Checks.many(190, 50));
        Checks.text(x, 4, ".*");
        x.lengths(1, 5);
        x.wide(3);
        due("MATCHES", x.match(NONE, 0), 1180);
        due("TERMS", x.told(NONE, 0), 1180);
        due("FREE of the first", x.told(0, 1), 0);
        due("LONGER of the first", x.longer(0, NONE), 4);
        due("HEADS", x.head(NONE, 0), 240);
        due("the last RANK", x.rank(x.ranked(5, 1179), 5), 1179);
        due("all covered", x.cover(3, 1180), 240);
        due("two DOCS' ends", x.of(0, 2), 940);
    }
}
