import java.util.NoSuchElementException;

/** What the tests share: texts are fed, answers compared and counted. */
final class Tester {
    /** What stands for NoSuchElementException among answers. */
    static final long THROWS = Long.MIN_VALUE;

    private static int wrong = 0;
    private static int right = 0;
    private static String sentence = "";

    private Tester() { }

    interface Call { long on(SketchFiller x); }

    interface Maker { SketchFiller make(); }

    /** The words of the document that the answers from here on are due by. */
    static void by(String words) { sentence = "[" + words + "] "; }

    static void due(String what, long got, long want) {
        if (got == want) { right++; return; }
        wrong++;
        System.out.println(sentence + what + ": answered " + got + ", due is " + want);
    }

    static void due(String what, boolean got, boolean want) { due(what, got ? 1 : 0, want ? 1 : 0); }

    static void due(String what, String got, String want) {
        if (got.equals(want)) { right++; return; }
        wrong++;
        System.out.println(sentence + what + ": answered \"" + got + "\", due is \"" + want + "\"");
    }

    static void end() {
        System.out.println(wrong == 0 ? "all " + right + " answers are as due" : wrong + " answers are not as due");
        if (wrong != 0) System.exit(1);
    }

    /** Feeds a text, twenty bytes a call, with bytes behind it that begin no token. */
    static void feed(SketchFiller x, String text) {
        for (int from = 0; from < text.length(); from += 20) {
            int[] n = new int[5];
            for (int j = 0; j < 20; j++) {
                int b = from + j < text.length() ? text.charAt(from + j) : 0;
                n[j / 4] = n[j / 4] << 8 | b;
            }
            x.feed(n[0], n[1], n[2], n[3], n[4]);
        }
    }

    static int tell(SketchFiller x, String text) {
        feed(x, text);
        return x.sketch(text.length());
    }

    static SketchFiller told(String text) {
        SketchFiller x = new SketchFiller();
        int answer = tell(x, text);
        if (answer < 0) due("sketch of " + text, answer, 0);
        return x;
    }

    /** The answer of ranked, THROWS if it throws what the document says. */
    static long ranked(SketchFiller x, int i) {
        try { return x.ranked(i); } catch (NoSuchElementException e) { return THROWS; }
    }

    static String shown(SketchFiller x, int guess) {
        int bytes = x.shown(guess, -1);
        StringBuilder text = new StringBuilder();
        for (int i = 0; i < bytes; i++) text.append((char) x.shown(guess, i));
        return text.toString();
    }

    /** All that can be asked for of what a call may change, by some eighty calls at most. */
    static String snapshot(SketchFiller x) {
        StringBuilder all = new StringBuilder();
        for (int what = 0; what < 7; what++) all.append(x.has(what)).append(' ');
        for (int k = 0; k < x.has(2); k++) all.append(x.hole(k, 2)).append(' ');
        for (int what = 0; what < 6; what++) all.append("state ").append(x.state(what)).append(' ');
        for (int i = 0; i <= x.state(2); i++) all.append(x.state(10 + i)).append(' ');
        for (int what = 0; what < 6; what++) all.append("many ").append(x.many(what)).append(' ');
        return all.append(x.kinds()).append(' ').append(x.sharpest(1)).toString();
    }

    /** The call answers so, and nothing is changed by it. */
    static void unchanged(String what, Maker maker, Call call, long want) {
        SketchFiller x = maker.make();
        String before = snapshot(x);
        due(what, call.on(x), want);
        due("all stays behind " + what, snapshot(x), before);
    }

    /** Holes a (3 bits, rank 1) and b (2 bits, rank 2): t is x * a + b, and x + x + 1 is due. */
    static final String LINE = "sketch 3;in x 3;hole a 3;hole b 2 rank 2;var t;t=x*a+b;spec t=x+x+1;";

    /** With a pin, two kept, UNROLL 4, ORDER 2, and a current guess. */
    static SketchFiller used() {
        SketchFiller x = told(LINE);
        x.pin(0, 2);
        x.keep(3);
        x.keep(0);
        x.set(0, 4);
        x.set(1, 2);
        x.guess();
        return x;
    }

    /** The byte '@' in the text is left out and tells the place of the fault that is due. */
    static void fault(int kind, String marked) {
        int place = marked.indexOf('@');
        fault(kind, place, marked.substring(0, place) + marked.substring(place + 1));
    }

    /** A fault, and all else stays: a new object has no sketch, a used one the one that it had. */
    static void fault(int kind, int place, String text) {
        SketchFiller x = new SketchFiller();
        due("fault of " + text, tell(x, text), -2 - (8 * place + kind));
        due("no sketch behind " + text, x.has(0), -1);
        unchanged("fault in a used one of " + text, Tester::used, y -> tell(y, text), -2 - (8 * place + kind));
    }

    /** A text without a fault; whatever was before it, all begins anew. */
    static void well(int statements, String text) {
        SketchFiller x = new SketchFiller();
        due("statements of " + text, tell(x, text), statements);
        SketchFiller y = used();
        due("statements in a used one of " + text, tell(y, text), statements);
        due("anew: " + text, snapshot(y), snapshot(x));
        due("has 4 of " + text, x.has(4), statements);
        int[] fresh = {0, -1, 0, 0, 0, 0};
        for (int what = 0; what < fresh.length; what++) due("state " + what + " behind " + text, x.state(what), fresh[what]);
        for (int k = 0; k < x.has(2); k++) due("no pin behind " + text, x.hole(k, 2), -1);
    }
}
