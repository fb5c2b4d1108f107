import java.nio.charset.StandardCharsets;
import java.util.Random;

/** Runs of calls by chance (the same ones each time): TermDraw must answer all that Naive does. */
public final class RandomTest {
    private static final String[] WORDS = {
        "cell", "cells", "wall", "walls", "rare", "form", "formed", "forming", "grow", "grows", "of", "in",
        "bad", "badly", "x", "n", "ab", "abs", "abcdefghij", "abcdefghi", "zz", "wallless", "cellular"};
    private static final String KINDS = "navpdo";
    private static final int[] EDGES = {
        -1, 0, 1, 2, 3, 4, 5, 6, 7, 8, 9, 10, 11, 12, -2, Integer.MAX_VALUE, Integer.MIN_VALUE};

    private final Random random;
    private final int run;
    private final int vocabulary;
    private final TermDraw x = new TermDraw();
    private final Naive y = new Naive();

    private RandomTest(int run, int vocabulary) {
        this.run = run;
        this.vocabulary = vocabulary;
        random = new Random(run);
    }

    public static void main(String[] args) {
        int runs = args.length > 0 ? Integer.parseInt(args[0]) : 400;
        int first = args.length > 1 ? Integer.parseInt(args[1]) : 0;
        for (int run = first; run < first + runs && Checks.wrongSoFar() == 0; run++) {
            new RandomTest(run, 3 + run % (WORDS.length - 2)).go();
        }
        Checks.close("RandomTest");
    }

    private void go() {
        for (int i = 0; i < 60 && Checks.wrongSoFar() == 0; i++) {
            switch (random.nextInt(12)) {
                case 0:
                    write(lexicon());
                    text(0);
                    break;
                case 1:
                    write(endings());
                    text(1);
                    break;
                case 2:
                    write(same());
                    text(2);
                    break;
                case 3:
                    write(prose(random.nextInt(10) == 0 ? 200 : 20));
                    text(3);
                    break;
                case 4:
                    write(pattern(0));
                    text(4);
                    break;
                case 5:
                case 6:
                case 7:
                    write(prose(random.nextInt(12) == 0 ? 130 : 16));
                    due("doc()", x.doc(), y.doc());
                    faults();
                    break;
                case 8:
                    settings();
                    break;
                case 9:
                    due("undo()", x.undo() ? 1 : 0, y.undo() ? 1 : 0);
                    break;
                default:
                    write(words(1 + random.nextInt(3)));
                    due("find()", x.find(), y.find());
                    break;
            }
            some();
            if (random.nextInt(8) == 0) {
                all();
            }
        }
    }

    private void due(String call, long got, long want) {
        Checks.due("run " + run + ": " + call, got, want);
    }

    private void write(String text) {
        if (random.nextInt(6) == 0) {
            text = spoilt(text);
        }
        byte[] bytes = text.getBytes(StandardCharsets.ISO_8859_1);
        for (int i = 0; i < bytes.length && i < 600; i += 20) {
            int[] n = new int[5];
            for (int k = 0; k < 5; k++) {
                n[k] = Checks.number(bytes, i + 4 * k);
            }
            due("feed", x.feed(n[0], n[1], n[2], n[3], n[4]), y.feed(n));
        }
        int end = random.nextInt(20) == 0 ? random.nextInt(700) : bytes.length;
        due("end(" + end + ")", x.end(end) ? 1 : 0, y.end(end) ? 1 : 0);
    }

    private String spoilt(String text) {
        StringBuilder all = new StringBuilder(text);
        for (int i = random.nextInt(3); i >= 0; i--) {
            String bad = "a;:=.|()*+? \nxz%" + (char) 0 + (char) 233 + "bcdefghijkl";
            int at = random.nextInt(all.length() + 1);
            if (random.nextInt(3) == 0 && at < all.length()) {
                all.deleteCharAt(at);
            } else {
                all.insert(at, bad.charAt(random.nextInt(bad.length())));
            }
        }
        return all.toString();
    }

    private String word() {
        if (random.nextInt(80) == 0) {
            return "ab" + (char) ('a' + random.nextInt(26)) + (char) ('a' + random.nextInt(26));
        }
        return WORDS[random.nextInt(vocabulary)];
    }

    private String words(int n) {
        StringBuilder all = new StringBuilder();
        for (int i = 0; i < n; i++) {
            all.append(i == 0 ? "" : random.nextInt(5) == 0 ? "\n" : " ").append(word());
        }
        return all.toString();
    }

    private String lexicon() {
        StringBuilder all = new StringBuilder();
        if (random.nextInt(10) == 0) {
            all.append("v:");
            for (int i = 0; i < 75 + random.nextInt(8); i++) {
                all.append(' ').append((char) ('a' + i % 26)).append((char) ('a' + i / 26)).append("qu");
            }
            return all.append(";").toString();
        }
        for (int i = random.nextInt(4); i >= 0; i--) {
            all.append(random.nextInt(2) == 0 ? "na".charAt(i % 2) : KINDS.charAt(random.nextInt(6)));
            all.append(" :".substring(random.nextInt(2))).append(words(1 + random.nextInt(6))).append("; ");
        }
        return all.toString();
    }

    private String endings() {
        String[] own = {"s", "ed", "ing", "ly", "less", "ular", "ij", "i", "ws"};
        String[] by = {"", "", "s", "w", "ing", "ij", "zzzzzzzzzz", "ed"};
        StringBuilder all = new StringBuilder();
        for (int i = random.nextInt(random.nextInt(8) == 0 ? 11 : 5); i > 0; i--) {
            all.append(own[random.nextInt(own.length)]).append(" =").append(by[random.nextInt(by.length)]).append(";");
        }
        return all.toString();
    }

    private String same() {
        StringBuilder all = new StringBuilder();
        for (int i = random.nextInt(5); i > 0; i--) {
            all.append(words(2 + random.nextInt(random.nextInt(6) == 0 ? 20 : 3))).append(" ;");
        }
        return all.toString();
    }

    private String prose(int most) {
        StringBuilder all = new StringBuilder();
        String[] gaps = {" ", " ", " ", " ", " ", "\n", ". ", " . ", "..", " "};
        for (int i = random.nextInt(most + 1); i > 0; i--) {
            all.append(most > 100 && random.nextInt(4) > 0 ? "ab" : word()).append(gaps[random.nextInt(gaps.length)]);
        }
        return all.toString();
    }

    private String pattern(int open) {
        StringBuilder all = new StringBuilder();
        String[] usual = {"(a|n)*n", "n", "(a|n)*n", ".*", "n (p d? n)?", "a+n+", "x*n", ".", "(n|)(|a)*n", "((a?)*|n+)*n"};
        if (open == 0 && random.nextInt(3) > 0) {
            return usual[random.nextInt(usual.length)];
        }
        for (int i = random.nextInt(4); i >= 0; i--) {
            int what = random.nextInt(12);
            if (what < 3 && open < 6) {
                all.append('(').append(pattern(open + 1)).append(')');
            } else if (what == 3) {
                all.append('|');
                continue;
            } else {
                all.append("navpdox..nna".charAt(random.nextInt(12)));
            }
            all.append("*+?      ".charAt(random.nextInt(9)));
        }
        return all.toString();
    }

    private void text(int which) {
        int asked = random.nextInt(30) == 0 ? edge() : which;
        due("text(" + asked + ")", x.text(asked), y.text(asked));
        faults();
    }

    private void faults() {
        for (int what = -1; what < 3; what++) {
            due("fault(" + what + ")", x.fault(what), y.fault(what));
        }
    }

    private void settings() {
        int a = edge();
        int b = edge();
        switch (random.nextInt(4)) {
            case 0:
                due("lengths(" + a + ", " + b + ")", x.lengths(a, b) ? 1 : 0, y.lengths(a, b) ? 1 : 0);
                break;
            case 1:
                due("weight(" + a + ", " + b + ")", x.weight(a, b) ? 1 : 0, y.weight(a, b) ? 1 : 0);
                break;
            case 2:
                due("wide(" + a + ")", x.wide(a) ? 1 : 0, y.wide(a) ? 1 : 0);
                break;
            default:
                due("drop(" + a + ")", x.drop(a), y.drop(a));
                break;
        }
    }

    private int edge() {
        return EDGES[random.nextInt(random.nextInt(3) == 0 ? EDGES.length : 7)];
    }

    private int index(int size) {
        return random.nextInt(5) == 0 ? edge() : random.nextInt(size + 1);
    }

    /** A few calls by chance. */
    private void some() {
        for (int i = 0; i < 12; i++) {
            ask(random.nextInt(17), index(y.told(-1, 0)), index(6));
        }
        slate();
    }

    private void ask(int call, int t, int k) {
        String with = "(" + t + ", " + k + ")";
        boolean yes = random.nextBoolean();
        switch (call) {
            case 0:
                due("of" + with, x.of(t, k), y.of(t, k));
                break;
            case 1:
                due("word" + with, x.word(k, t, yes), y.word(k, t, yes));
                break;
            case 2:
                due("kindAt" + with, x.kindAt(k, t), y.kindAt(k, t));
                break;
            case 3:
                due("match" + with, x.match(t, k), y.match(t, k));
                break;
            case 4:
                due("term" + with, x.term(t, yes), y.term(t, yes));
                break;
            case 5:
                due("told" + with, x.told(t, k), y.told(t, k));
                break;
            case 6:
                due("measure" + with + yes, x.measure(t, k, yes), y.measure(t, k, yes));
                break;
            case 7:
                due("share" + with, x.share(t, k), y.share(t, k));
                break;
            case 8:
                due("rest" + with, x.rest(t, k), y.rest(t, k));
                break;
            case 9:
                due("ranked" + with, x.ranked(k, t), y.ranked(k, t));
                break;
            case 10:
                due("rank" + with, x.rank(t, k), y.rank(t, k));
                break;
            case 11:
                due("longer" + with, x.longer(t, k), y.longer(t, k));
                break;
            case 12:
                due("around" + with, x.around(t, k), y.around(t, k));
                break;
            case 13:
                due("likely(" + yes + ")", x.likely(yes), y.likely(yes));
                break;
            case 14:
                due("head" + with, x.head(t, k), y.head(t, k));
                break;
            case 15:
                due("cover" + with, x.cover(k, t), y.cover(k, t));
                break;
            default:
                due("look(" + t + ")", x.look(t), y.look(t));
                break;
        }
    }

    private void slate() {
        for (int i = -2; i <= y.slate(-1); i++) {
            due("slate(" + i + ")", x.slate(i), y.slate(i));
        }
    }

    /** Every call for every WORD, MATCH and TERM, unless they are too many for Naive. */
    private void all() {
        for (int what = -1; what < 12; what++) {
            due("look(" + what + ")", x.look(what), y.look(what));
        }
        int terms = y.told(-1, 0);
        int most = Math.min(terms, 25);
        for (int doc = 0; doc <= y.look(3); doc++) {
            for (int i = 0; i < 20; i++) {
                ask(0, doc, i);
                ask(1, i, doc);
                ask(2, i, doc);
            }
        }
        for (int m = -1; m <= y.match(-1, 0) && m < 60; m++) {
            for (int what = 0; what < 6; what++) {
                ask(3, m, what);
            }
        }
        for (int t = -1; t <= most; t++) {
            ask(4, t, 0);
            slate();
            for (int what = 0; what < 11; what++) {
                ask(5, t, what);
            }
            for (int k = -1; k < 8; k++) {
                ask(6, t, k);
                ask(7, t, k);
                ask(8, t, k);
                ask(11, t, k);
                ask(12, t, k);
                ask(13, t, k);
                ask(14, t, k);
            }
        }
        if (terms < 60) {
            for (int k = 0; k < 7; k++) {
                for (int t = 0; t <= terms; t++) {
                    ask(9, t, k);
                    ask(10, t, k);
                    ask(15, t, k);
                }
            }
        }
    }
}
