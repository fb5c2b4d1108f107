/** The example of README.md: what stands here between the two marks stands there word for word. */
final class Example {
    private Example() {
    }

    // ---- from here ----
    /** Puts a text behind what stands on THE TAPE; false, and THE TAPE as before, if it has no room for its twenties. */
    static boolean write(TermDraw x, String text) {
        int before = x.look(10);
        for (int i = 0; i < text.length(); i += 20) {
            int[] four = new int[5];
            for (int k = 0; k < 20; k++) {
                int b = i + k < text.length() ? text.charAt(i + k) & 255 : ' ';
                four[k / 4] = four[k / 4] << 8 | b;
            }
            if (x.feed(four[0], four[1], four[2], four[3], four[4]) == TermDraw.NONE) {
                x.end(before);
                return false;
            }
        }
        return x.end(before + text.length());
    }

    /** What stands on THE SLATE. */
    static String read(TermDraw x) {
        StringBuilder all = new StringBuilder();
        for (int i = 0; i < x.slate(TermDraw.NONE); i++) {
            all.append((char) x.slate(i));
        }
        return all.toString();
    }

    public static void main(String[] args) {
        TermDraw x = new TermDraw();
        write(x, "n: cell wall; a: rare;");
        x.text(0);                                      // the LEXICON: 3 WORDS
        write(x, "s=;");
        x.text(1);                                      // 1 ENDING
        write(x, "rare cells. rare cell wall, cell walls");
        if (x.doc() == TermDraw.NONE) {                 // "," can't stand there
            System.out.println("FAULT " + x.fault(0) + " at " + x.fault(1));
        }
        write(x, "rare cells. rare cell wall. cell walls");
        x.doc();                                        // DOC 0
        for (int r = 0; r < x.told(TermDraw.NONE, 0); r++) {
            int t = x.ranked(2, r);                     // by WORTH
            x.term(t, false);
            System.out.println(read(x) + ": COUNT " + x.told(t, 0)
                    + ", WORTH " + x.measure(t, 2, false) + " by " + x.measure(t, 2, true));
        }
    }
    // ---- to here ----
}
