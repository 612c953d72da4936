import java.util.NoSuchElementException;

/** What the tests share: texts are fed, answers compared and counted. */
final class Tester {
    private static int wrong = 0;
    private static int right = 0;

    private Tester() { }

    static void due(String what, long got, long want) {
        if (got == want) { right++; return; }
        wrong++;
        System.out.println(what + ": answered " + got + ", due is " + want);
    }

    static void due(String what, boolean got, boolean want) { due(what, got ? 1 : 0, want ? 1 : 0); }

    static void due(String what, String got, String want) {
        if (got.equals(want)) { right++; return; }
        wrong++;
        System.out.println(what + ": answered \"" + got + "\", due is \"" + want + "\"");
    }

    static void end() {
        System.out.println(wrong == 0 ? "all " + right + " answers are as due" : wrong + " answers are not as due");
        if (wrong != 0) System.exit(1);
    }

    /** Feeds a text, twenty bytes a call, with bytes behind it that begin no token. */
    static void feed(SketchFiller x, String text) {
        for (int from = 0; from < text.length(); from += 20) {
            int[] n = new int[5];
            for (int j = 0; j < 20; j++) {
                int b = from + j < text.length() ? text.charAt(from + j) : 0;
                n[j / 4] = n[j / 4] << 8 | b;
            }
            x.feed(n[0], n[1], n[2], n[3], n[4]);
        }
    }

    static int tell(SketchFiller x, String text) {
        feed(x, text);
        return x.sketch(text.length());
    }

    static SketchFiller told(String text) {
        SketchFiller x = new SketchFiller();
        int answer = tell(x, text);
        if (answer < 0) due("sketch of " + text, answer, 0);
        return x;
    }

    /** The answer of ranked, Long.MIN_VALUE if it throws what the document says. */
    static long ranked(SketchFiller x, int i) {
        try { return x.ranked(i); } catch (NoSuchElementException e) { return Long.MIN_VALUE; }
    }

    static String shown(SketchFiller x, int guess) {
        StringBuilder text = new StringBuilder();
        for (int i = 0; i < x.shown(guess, -1); i++) text.append((char) x.shown(guess, i));
        return text.toString();
    }
}
