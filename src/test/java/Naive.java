import java.math.BigInteger;
import java.util.ArrayDeque;
import java.util.ArrayList;
import java.util.Arrays;
import java.util.Comparator;
import java.util.Deque;
import java.util.LinkedHashMap;
import java.util.LinkedHashSet;
import java.util.List;
import java.util.Map;
import java.util.Set;
import java.util.TreeMap;
import java.util.TreeSet;

/**
 * The document once more, as plainly as the Java library lets it be told, with no thought of
 * speed or room: RandomTest compares TermDraw with it.
 */
final class Naive {
    static final String KINDS = "navpdox";

    static final class State {
        Map<String, Character> lexicon = new LinkedHashMap<>();
        List<String[]> endings = new ArrayList<>();
        Map<String, String> same = new LinkedHashMap<>();
        int sameWords = 0;
        List<List<List<String>>> docs = new ArrayList<>();
        List<List<String>> general = new ArrayList<>();
        String pattern = "(a|n)*n";
        int least = 2;
        int most = 5;
        int[] weights = {0, 1, 2, 3, 4, 5};
        int wide = 1;

        State copy() {
            State s = new State();
            s.lexicon = new LinkedHashMap<>(lexicon);
            s.endings = new ArrayList<>(endings);
            s.same = new LinkedHashMap<>(same);
            s.sameWords = sameWords;
            s.docs = new ArrayList<>(docs);
            s.general = general;
            s.pattern = pattern;
            s.least = least;
            s.most = most;
            s.weights = weights.clone();
            s.wide = wide;
            return s;
        }
    }

    static final class Found {
        int doc;
        int place;
        List<String> words;
        List<String> bases;
        List<String> around = new ArrayList<>();
        boolean within = false;
    }

    /** Thrown where a TEXT has its first FAULT. */
    static final class Fault extends RuntimeException {
        static final long serialVersionUID = 1;
        final int what;
        final int place;

        Fault(int what, int place) {
            this.what = what;
            this.place = place;
        }
    }

    static final class Fraction {
        final BigInteger above;
        final BigInteger below;

        Fraction(BigInteger a, BigInteger b) {
            BigInteger g = a.gcd(b);
            above = a.divide(g);
            below = b.divide(g);
        }

        static Fraction of(long a, long b) {
            return new Fraction(BigInteger.valueOf(a), BigInteger.valueOf(b));
        }

        Fraction times(Fraction o) {
            return new Fraction(above.multiply(o.above), below.multiply(o.below));
        }

        Fraction plus(Fraction o) {
            return new Fraction(above.multiply(o.below).add(o.above.multiply(below)), below.multiply(o.below));
        }

        int compareTo(Fraction o) {
            return above.multiply(o.below).compareTo(o.above.multiply(below));
        }
    }

    private StringBuilder tape = new StringBuilder();
    private String slate = "";
    private State now = new State();
    private final Deque<State> past = new ArrayDeque<>();
    private int fault = 0;
    private int faultPlace = -1;
    private List<Found> matches;
    private List<List<String>> terms;

    private void change(State to) {
        past.addLast(now);
        if (past.size() > 8) {
            past.removeFirst();
        }
        now = to;
        matches = null;
    }

    // ---- telling ----

    int feed(int... numbers) {
        if (tape.length() + 20 > 600) {
            return -1;
        }
        for (int n : numbers) {
            for (int s = 24; s >= 0; s -= 8) {
                tape.append((char) (n >> s & 255));
            }
        }
        return tape.length();
    }

    boolean end(int n) {
        if (n < 0 || n > tape.length()) {
            return false;
        }
        tape.setLength(n);
        return true;
    }

    private String takeTape() {
        String all = tape.toString();
        tape = new StringBuilder();
        fault = 0;
        faultPlace = -1;
        return all;
    }

    int text(int which) {
        String all = takeTape();
        if (which < 0 || which > 4) {
            return -2;
        }
        State next = now.copy();
        try {
            int answer;
            if (which == 0) {
                answer = readLexicon(next, all);
            } else if (which == 1) {
                answer = readEndings(next, all);
            } else if (which == 2) {
                answer = readSame(next, all);
            } else if (which == 3) {
                next.general = readProse(all, 240);
                answer = size(next.general);
            } else {
                answer = new PatternTree(all).count;
                next.pattern = all;
            }
            change(next);
            return answer;
        } catch (Fault f) {
            fault = f.what;
            faultPlace = f.place;
            return -1;
        }
    }

    int doc() {
        String all = takeTape();
        if (now.docs.size() == 8) {
            return -2;
        }
        State next = now.copy();
        try {
            next.docs.add(readProse(all, 240 - allWords()));
        } catch (Fault f) {
            fault = f.what;
            faultPlace = f.place;
            return -1;
        }
        change(next);
        return next.docs.size() - 1;
    }

    static final class Token {
        final String text;
        final int place;

        Token(String text, int place) {
            this.text = text;
            this.place = place;
        }

        boolean isWord() {
            return text.matches("[a-z]{1,10}");
        }

        boolean is(String s) {
            return text.equals(s);
        }
    }

    private static List<Token> tokens(String all) {
        List<Token> found = new ArrayList<>();
        java.util.regex.Matcher m = java.util.regex.Pattern.compile("[a-z]+|[^ \\n]", java.util.regex.Pattern.DOTALL).matcher(all);
        while (m.find()) {
            found.add(new Token(m.group(), m.start()));
        }
        found.add(new Token("", all.length()));
        return found;
    }

    private static void must(boolean stands, Token t) {
        if (!stands) {
            throw new Fault(1, t.place);
        }
    }

    private static void room(boolean there, Token t) {
        if (!there) {
            throw new Fault(2, t.place);
        }
    }

    private static int readLexicon(State s, String all) {
        List<Token> list = tokens(all);
        int i = 0;
        while (!list.get(i).is("")) {
            must(list.get(i).text.matches("[navpdo]"), list.get(i));
            char kind = list.get(i).text.charAt(0);
            must(list.get(++i).is(":"), list.get(i));
            must(list.get(++i).isWord(), list.get(i));
            while (!list.get(i).is(";")) {
                must(list.get(i).isWord(), list.get(i));
                room(s.lexicon.size() < 80 || s.lexicon.containsKey(list.get(i).text), list.get(i));
                s.lexicon.put(list.get(i++).text, kind);
            }
            i++;
        }
        return s.lexicon.size();
    }

    private static int readEndings(State s, String all) {
        List<Token> list = tokens(all);
        int i = 0;
        s.endings = new ArrayList<>();
        while (!list.get(i).is("")) {
            must(list.get(i).isWord(), list.get(i));
            room(s.endings.size() < 8, list.get(i));
            String ending = list.get(i++).text;
            must(list.get(i).is("="), list.get(i));
            i++;
            String by = "";
            if (list.get(i).isWord()) {
                by = list.get(i++).text;
            }
            must(list.get(i).is(";"), list.get(i));
            i++;
            s.endings.add(new String[] {ending, by});
        }
        return s.endings.size();
    }

    private static int readSame(State s, String all) {
        List<Token> list = tokens(all);
        int i = 0;
        s.same = new LinkedHashMap<>();
        s.sameWords = 0;
        while (!list.get(i).is("")) {
            must(list.get(i).isWord(), list.get(i));
            room(++s.sameWords <= 40, list.get(i));
            String as = s.same.getOrDefault(list.get(i).text, list.get(i).text);
            must(list.get(++i).isWord(), list.get(i));
            while (!list.get(i).is(";")) {
                must(list.get(i).isWord(), list.get(i));
                room(++s.sameWords <= 40, list.get(i));
                if (!list.get(i).is(as)) {
                    s.same.putIfAbsent(list.get(i).text, as);
                }
                i++;
            }
            i++;
        }
        return s.sameWords;
    }

    private static List<List<String>> readProse(String all, int most) {
        List<List<String>> sentences = new ArrayList<>();
        List<String> sentence = new ArrayList<>();
        int words = 0;
        for (Token t : tokens(all)) {
            if (t.is(".") || t.is("")) {
                if (!sentence.isEmpty()) {
                    sentences.add(sentence);
                }
                sentence = new ArrayList<>();
            } else {
                must(t.isWord(), t);
                room(++words <= most, t);
                sentence.add(t.text);
            }
        }
        return sentences;
    }

    /** The PATTERN as a tree; where a part of it can end is asked of the tree itself. */
    static final class PatternTree {
        private final String all;
        private int i = 0;
        private int count = 0;
        private final List<Object> root;

        PatternTree(String all) {
            this.all = all;
            root = alt(0);
            if (peek() != 0) {
                throw new Fault(1, i);
            }
        }

        private char peek() {
            while (i < all.length() && (all.charAt(i) == ' ' || all.charAt(i) == '\n')) {
                i++;
            }
            if (i < all.length() && all.charAt(i) == 0) {
                throw new Fault(1, i);
            }
            return i < all.length() ? all.charAt(i) : 0;
        }

        private List<Object> alt(int open) {
            List<Object> rows = new ArrayList<>(Arrays.asList("alt", row(open)));
            while (peek() == '|') {
                i++;
                rows.add(row(open));
            }
            return rows;
        }

        private List<Object> row(int open) {
            List<Object> items = new ArrayList<>(List.of("row"));
            while (peek() != 0 && peek() != '|' && peek() != ')') {
                char c = peek();
                Object item;
                if (c == '(') {
                    if (open == 4) {
                        throw new Fault(2, i);
                    }
                    i++;
                    item = alt(open + 1);
                    if (peek() != ')') {
                        throw new Fault(1, i);
                    }
                } else {
                    if (c != '.' && KINDS.indexOf(c) < 0) {
                        throw new Fault(1, i);
                    }
                    if (++count > 12) {
                        throw new Fault(2, i);
                    }
                    item = c;
                }
                i++;
                c = peek();
                if (c == '*' || c == '+' || c == '?') {
                    item = List.of("" + c, item);
                    i++;
                }
                items.add(item);
            }
            return items;
        }

        boolean matches(String kinds) {
            return ends(root, kinds, 0).contains(kinds.length());
        }

        private Set<Integer> ends(Object part, String kinds, int from) {
            Set<Integer> found = new TreeSet<>();
            if (part instanceof Character) {
                char c = (Character) part;
                if (from < kinds.length() && (c == '.' || c == kinds.charAt(from))) {
                    found.add(from + 1);
                }
                return found;
            }
            List<?> list = (List<?>) part;
            String how = (String) list.get(0);
            if (how.equals("alt")) {
                for (Object row : list.subList(1, list.size())) {
                    found.addAll(ends(row, kinds, from));
                }
            } else if (how.equals("row")) {
                found.add(from);
                for (Object item : list.subList(1, list.size())) {
                    found = endsOfAll(item, kinds, found);
                }
            } else {
                if (!how.equals("+")) {
                    found.add(from);
                }
                Set<Integer> more = endsOfAll(list.get(1), kinds, Set.of(from));
                while (found.addAll(more) && !how.equals("?")) {
                    more = endsOfAll(list.get(1), kinds, more);
                }
            }
            return found;
        }

        private Set<Integer> endsOfAll(Object part, String kinds, Set<Integer> froms) {
            Set<Integer> found = new TreeSet<>();
            for (int from : froms) {
                found.addAll(ends(part, kinds, from));
            }
            return found;
        }
    }

    int drop(int doc) {
        if (doc < 0 || doc >= now.docs.size()) {
            return -1;
        }
        State next = now.copy();
        next.docs.remove(doc);
        change(next);
        return next.docs.size();
    }

    int fault(int what) {
        return what == 0 ? fault : what == 1 ? faultPlace : -1;
    }

    boolean lengths(int least, int most) {
        if (least < 1 || least > 5 || most < 1 || most > 5 || least > most
                || least == now.least && most == now.most) {
            return false;
        }
        State next = now.copy();
        next.least = least;
        next.most = most;
        change(next);
        return true;
    }

    boolean weight(int length, int v) {
        if (length < 1 || length > 5 || v < 0 || v > 9 || now.weights[length] == v) {
            return false;
        }
        State next = now.copy();
        next.weights[length] = v;
        change(next);
        return true;
    }

    boolean wide(int v) {
        if (v < 0 || v > 3 || now.wide == v) {
            return false;
        }
        State next = now.copy();
        next.wide = v;
        change(next);
        return true;
    }

    boolean undo() {
        if (past.isEmpty()) {
            return false;
        }
        now = past.removeLast();
        matches = null;
        return true;
    }

    // ---- words ----

    private static int size(List<List<String>> sentences) {
        return sentences.stream().mapToInt(List::size).sum();
    }

    private int allWords() {
        return now.docs.stream().mapToInt(Naive::size).sum();
    }

    private String base(String word) {
        if (now.same.containsKey(word)) {
            return now.same.get(word);
        }
        for (String[] e : now.endings) {
            if (word.endsWith(e[0]) && word.length() - e[0].length() >= 2) {
                String other = word.substring(0, word.length() - e[0].length()) + e[1];
                if (now.lexicon.containsKey(other)) {
                    return now.same.getOrDefault(other, other);
                }
            }
        }
        return word;
    }

    private List<String> bases(List<String> words) {
        List<String> found = new ArrayList<>();
        for (String w : words) {
            found.add(base(w));
        }
        return found;
    }

    private char kind(String word) {
        if (now.lexicon.containsKey(word)) {
            return now.lexicon.get(word);
        }
        return now.lexicon.getOrDefault(base(word), 'x');
    }

    private String wordOf(int doc, int i) {
        if (doc < 0 || doc >= now.docs.size() || i < 0) {
            return null;
        }
        for (List<String> sentence : now.docs.get(doc)) {
            if (i < sentence.size()) {
                return sentence.get(i);
            }
            i -= sentence.size();
        }
        return null;
    }

    // ---- matches and terms ----

    private static final Comparator<List<String>> BY_LETTERS = (a, b) -> {
        for (int i = 0; i < a.size() && i < b.size(); i++) {
            int c = a.get(i).compareTo(b.get(i));
            if (c != 0) {
                return c;
            }
        }
        return a.size() - b.size();
    };

    private void draw() {
        if (matches != null) {
            return;
        }
        matches = new ArrayList<>();
        PatternTree tree = new PatternTree(now.pattern);
        for (int doc = 0; doc < now.docs.size(); doc++) {
            int ahead = 0;
            for (List<String> sentence : now.docs.get(doc)) {
                for (int s = 0; s < sentence.size(); s++) {
                    for (int n = now.least; n <= now.most && s + n <= sentence.size(); n++) {
                        StringBuilder kinds = new StringBuilder();
                        for (String w : sentence.subList(s, s + n)) {
                            kinds.append(kind(w));
                        }
                        if (tree.matches(kinds.toString())) {
                            matches.add(found(doc, ahead, sentence, s, n));
                        }
                    }
                }
                ahead += sentence.size();
            }
        }
        TreeSet<List<String>> rows = new TreeSet<>(BY_LETTERS);
        for (Found m : matches) {
            rows.add(m.bases);
            for (Found o : matches) {
                if (o.doc == m.doc && o.words.size() > m.words.size() && o.place <= m.place
                        && o.place + o.words.size() >= m.place + m.words.size()) {
                    m.within = true;
                }
            }
        }
        terms = new ArrayList<>(rows);
    }

    private Found found(int doc, int ahead, List<String> sentence, int s, int n) {
        Found m = new Found();
        m.doc = doc;
        m.place = ahead + s;
        m.words = sentence.subList(s, s + n);
        m.bases = bases(m.words);
        m.around.addAll(bases(sentence.subList(Math.max(0, s - now.wide), s)));
        m.around.addAll(bases(sentence.subList(s + n, Math.min(sentence.size(), s + n + now.wide))));
        return m;
    }

    private List<Found> of(List<String> term) {
        List<Found> own = new ArrayList<>();
        for (Found m : matches) {
            if (m.bases.equals(term)) {
                own.add(m);
            }
        }
        return own;
    }

    private List<List<String>> longerThan(List<String> term) {
        List<List<String>> found = new ArrayList<>();
        for (List<String> o : terms) {
            if (o.size() > term.size() && java.util.Collections.indexOfSubList(o, term) >= 0) {
                found.add(o);
            }
        }
        return found;
    }

    private int taken(List<String> term) {
        int sum = 0;
        for (List<String> o : longerThan(term)) {
            sum += of(o).size();
        }
        return sum;
    }

    private int inGeneral(List<String> term) {
        int many = 0;
        for (List<String> sentence : now.general) {
            List<String> own = bases(sentence);
            for (int i = 0; i + term.size() <= own.size(); i++) {
                if (own.subList(i, i + term.size()).equals(term)) {
                    many++;
                }
            }
        }
        return many;
    }

    private TreeMap<String, Integer> aroundOf(List<String> term) {
        TreeMap<String, Integer> many = new TreeMap<>();
        for (Found m : of(term)) {
            for (String b : m.around) {
                many.merge(b, 1, Integer::sum);
            }
        }
        return many;
    }

    private Fraction likelyOf(String base) {
        int many = 0;
        for (List<String> t : terms) {
            if (aroundOf(t).containsKey(base)) {
                many++;
            }
        }
        return terms.isEmpty() ? Fraction.of(0, 1) : Fraction.of(many, terms.size());
    }

    private Map<List<String>, Integer> forms(List<String> term) {
        TreeMap<List<String>, Integer> many = new TreeMap<>(BY_LETTERS);
        for (Found m : of(term)) {
            many.merge(m.words, 1, Integer::sum);
        }
        return many;
    }

    private Fraction worth(List<String> term) {
        Fraction w = Fraction.of(now.weights[term.size()], 1);
        int count = of(term).size();
        int longer = longerThan(term).size();
        if (longer == 0) {
            return w.times(Fraction.of(count, 1));
        }
        return w.times(Fraction.of(count, 1).plus(Fraction.of(-taken(term), longer)));
    }

    private Fraction odd(List<String> term) {
        return Fraction.of((long) of(term).size() * (size(now.general) + 1),
                (long) (inGeneral(term) + 1) * (allWords() + 1));
    }

    private int docBits(List<String> term) {
        int bits = 0;
        for (Found m : of(term)) {
            bits |= 1 << m.doc;
        }
        return bits;
    }

    private Fraction measured(List<String> term, int measure) {
        switch (measure) {
            case 0:
                return Fraction.of(of(term).size(), 1);
            case 1:
                return Fraction.of(of(term).stream().filter(m -> !m.within).count(), 1);
            case 2:
                return worth(term);
            case 3:
                return odd(term);
            case 4:
                return worth(term).times(odd(term));
            case 5:
                Fraction sum = worth(term).times(Fraction.of(4, 1));
                for (Map.Entry<String, Integer> e : aroundOf(term).entrySet()) {
                    sum = sum.plus(likelyOf(e.getKey()).times(Fraction.of(e.getValue(), 1)));
                }
                return sum.times(Fraction.of(1, 5));
            default:
                return Fraction.of(Integer.bitCount(docBits(term)), 1);
        }
    }

    private List<List<String>> order(int measure) {
        Map<List<String>, Fraction> by = new LinkedHashMap<>();
        for (List<String> t : terms) {
            by.put(t, measured(t, measure));
        }
        List<List<String>> sorted = new ArrayList<>(terms);
        sorted.sort((a, b) -> {
            int c = by.get(b).compareTo(by.get(a));
            if (c == 0) {
                c = of(b).size() - of(a).size();
            }
            return c != 0 ? c : BY_LETTERS.compare(a, b);
        });
        return sorted;
    }

    private List<String> termAt(int t) {
        draw();
        return t < 0 || t >= terms.size() ? null : terms.get(t);
    }

    // ---- asking ----

    int of(int doc, int what) {
        draw();
        if (doc < 0 || doc >= now.docs.size()) {
            return -1;
        }
        switch (what) {
            case 0:
                return size(now.docs.get(doc));
            case 1:
                return now.docs.get(doc).size();
            case 2:
                return (int) matches.stream().filter(m -> m.doc == doc).count();
            case 3:
                return (int) matches.stream().filter(m -> m.doc == doc).map(m -> m.bases).distinct().count();
            default:
                return -1;
        }
    }

    private int show(String text) {
        slate = text;
        return text.length();
    }

    int word(int doc, int i, boolean base) {
        String w = wordOf(doc, i);
        return w == null ? -1 : show(base ? base(w) : w);
    }

    int kindAt(int doc, int i) {
        String w = wordOf(doc, i);
        return w == null ? -1 : kind(w);
    }

    int match(int m, int what) {
        draw();
        if (m == -1) {
            return matches.size();
        }
        if (m < 0 || m >= matches.size()) {
            return -1;
        }
        Found own = matches.get(m);
        switch (what) {
            case 0:
                return own.doc;
            case 1:
                return own.place;
            case 2:
                return own.words.size();
            case 3:
                return terms.indexOf(own.bases);
            case 4:
                return own.within ? 1 : 0;
            default:
                return -1;
        }
    }

    int term(int t, boolean common) {
        List<String> term = termAt(t);
        if (term == null) {
            return -1;
        }
        if (!common) {
            return show(String.join(" ", term));
        }
        List<String> best = null;
        int most = 0;
        for (Map.Entry<List<String>, Integer> e : forms(term).entrySet()) {
            if (e.getValue() > most) {
                most = e.getValue();
                best = e.getKey();
            }
        }
        return show(String.join(" ", best));
    }

    int slate(int i) {
        if (i == -1) {
            return slate.length();
        }
        return i < 0 || i >= slate.length() ? -2 : slate.charAt(i);
    }

    int find() {
        draw();
        String all = tape.toString();
        tape = new StringBuilder();
        if (!all.matches("[a-z \\n]*")) {
            return -1;
        }
        List<String> words = new ArrayList<>();
        for (String w : all.split("[ \\n]+")) {
            if (w.length() > 10) {
                return -1;
            }
            if (!w.isEmpty()) {
                words.add(w);
            }
        }
        return terms.indexOf(bases(words));
    }

    int told(int t, int what) {
        draw();
        if (t == -1) {
            return terms.size();
        }
        List<String> term = termAt(t);
        if (term == null) {
            return -1;
        }
        switch (what) {
            case 0:
                return of(term).size();
            case 1:
                return (int) of(term).stream().filter(m -> !m.within).count();
            case 2:
                return longerThan(term).size();
            case 3:
                return taken(term);
            case 4:
                return forms(term).size();
            case 5:
                return inGeneral(term);
            case 6:
                return term.size();
            case 7:
                return docBits(term);
            case 8:
                return aroundOf(term).size();
            case 9:
                return matches.indexOf(of(term).get(0));
            default:
                return -1;
        }
    }

    private Fraction asked(int t, int measure) {
        List<String> term = termAt(t);
        return term == null || measure < 0 || measure > 6 ? null : measured(term, measure);
    }

    long measure(int t, int measure, boolean under) {
        Fraction f = asked(t, measure);
        return f == null ? Long.MIN_VALUE : (under ? f.below : f.above).longValueExact();
    }

    int share(int t, int measure) {
        Fraction f = asked(t, measure);
        return f == null ? -1 : Float.floatToIntBits((float) f.above.longValueExact() / (float) f.below.longValueExact());
    }

    long rest(int t, int measure) {
        Fraction f = asked(t, measure);
        return f == null ? -1
                : Double.doubleToLongBits((double) f.above.longValueExact() / (double) f.below.longValueExact() % 1.5);
    }

    int ranked(int measure, int r) {
        draw();
        if (measure < 0 || measure > 6 || r < 0 || r >= terms.size()) {
            return -1;
        }
        return terms.indexOf(order(measure).get(r));
    }

    int rank(int t, int measure) {
        List<String> term = termAt(t);
        return term == null || measure < 0 || measure > 6 ? -1 : order(measure).indexOf(term);
    }

    int longer(int t, int i) {
        List<String> term = termAt(t);
        if (term == null) {
            return -1;
        }
        List<List<String>> all = longerThan(term);
        if (i == -1) {
            return all.size();
        }
        return i < 0 || i >= all.size() ? -1 : terms.indexOf(all.get(i));
    }

    int around(int t, int i) {
        List<String> term = termAt(t);
        if (term == null) {
            return -1;
        }
        List<Map.Entry<String, Integer>> all = new ArrayList<>(aroundOf(term).entrySet());
        if (i < 0 || i >= all.size()) {
            return -1;
        }
        slate = all.get(i).getKey();
        return all.get(i).getValue();
    }

    long likely(boolean under) {
        draw();
        if (!slate.matches("[a-z]{1,10}")) {
            return -1;
        }
        Fraction f = likelyOf(slate);
        return (under ? f.below : f.above).longValueExact();
    }

    int head(int h, int what) {
        draw();
        TreeMap<String, int[]> heads = new TreeMap<>();
        for (int t = 0; t < terms.size(); t++) {
            List<String> term = terms.get(t);
            int[] own = heads.computeIfAbsent(term.get(term.size() - 1), k -> new int[] {0, 0, -1});
            own[0]++;
            own[1] += of(term).size();
            own[2] = own[2] < 0 ? t : own[2];
        }
        if (h == -1) {
            return heads.size();
        }
        if (h < 0 || h >= heads.size() || what < 0 || what > 2) {
            return -1;
        }
        return new ArrayList<>(heads.values()).get(h)[what];
    }

    int cover(int measure, int n) {
        draw();
        if (measure < 0 || measure > 6 || n < 0 || n > terms.size()) {
            return -1;
        }
        Set<List<Integer>> places = new LinkedHashSet<>();
        for (List<String> term : order(measure).subList(0, n)) {
            for (Found m : of(term)) {
                for (int i = 0; i < m.words.size(); i++) {
                    places.add(List.of(m.doc, m.place + i));
                }
            }
        }
        return places.size();
    }

    int look(int what) {
        switch (what) {
            case 0:
                return now.lexicon.size();
            case 1:
                return now.endings.size();
            case 2:
                return now.sameWords;
            case 3:
                return now.docs.size();
            case 4:
                return allWords();
            case 5:
                return size(now.general);
            case 6:
                return now.least;
            case 7:
                return now.most;
            case 8:
                return now.wide;
            case 9:
                return past.size();
            case 10:
                return tape.length();
            default:
                return -1;
        }
    }
}
