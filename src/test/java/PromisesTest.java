/** Each promise: ordinary inputs, the edges that the document names, wrong inputs. */
public final class PromisesTest {
    private static final int MIN = Integer.MIN_VALUE;
    private static final int MAX = Integer.MAX_VALUE;

    private static final String LINE = Tester.LINE;
    /** 0: stands. 1: spec. 2: must. 3: division. 4: while. 5: steps. By the input alone. */
    private static final String EACH_VERDICT = "sketch 4;in i 3;hole h 2;var v;v=7;"
            + "if i=2{must 0;}if i=3{v=1/(i-3);}if i=4{while 1 most 3{v=v+1;}}"
            + "if i=5{loop 9{loop 9{v=v+1;}}}spec ~(i=1)&1;";
    /** One hole of six bits, one input of six: the guess h is refuted by the input h alone. */
    private static final String ONE_EACH = "sketch 6;in x 6;hole h 6;spec (x=h)=0;";

    public static void main(String[] args) {
        noSketch();
        feeding();
        telling();
        tellingAgain();
        holesAndGuesses();
        numbers();
        verdicts();
        steps();
        ends();
        unroll();
        searching();
        orders();
        fortyKept();
        going();
        pins();
        keeping();
        setting();
        leftAndTrue();
        sharpness();
        free();
        neededAndCore();
        kindsAndAlike();
        shown();
        withoutHolesOrIns();
        largest();
        Tester.due("NONE", SketchFiller.NONE, -1);
        Tester.end();
    }

    private static void noSketch() {
        SketchFiller x = new SketchFiller();
        for (int what = -2; what < 12; what++) {
            Tester.due("new has " + what, x.has(what), -1);
            Tester.due("new state " + what, x.state(what), what == 5 ? 0 : -1);
            Tester.due("new many " + what, x.many(what), -1);
            Tester.due("new hole " + what, x.hole(0, what), -1);
            Tester.due("new set " + what, x.set(what, 0), -1);
            Tester.due("new sharpest " + what, x.sharpest(what), -1);
            Tester.due("new core " + what, x.core(what), -1);
            Tester.due("new needed " + what, x.needed(what), -1);
        }
        Tester.due("new value", x.value(0, 0), -1);
        Tester.due("new cost", x.cost(0), -1);
        Tester.due("new ranked", Tester.ranked(x, 0), Tester.THROWS);
        Tester.due("new verdict", x.verdict(0, 0), -1);
        Tester.due("new steps", x.steps(0, 0), -1);
        Tester.due("new ends", x.ends(0, 0, 0), -1);
        Tester.due("new refuter", x.refuter(0), -2);
        Tester.due("new guess", x.guess(), -1);
        Tester.due("new check", x.check(), -1);
        Tester.due("new go", x.go(1), -1);
        Tester.due("new pin", x.pin(0, 0), false);
        Tester.due("new pin NONE", x.pin(0, -1), false);
        Tester.due("new keep", x.keep(0), -1);
        Tester.due("new drop", x.drop(0), -1);
        Tester.due("new by", x.by(0, 0), -1);
        Tester.due("new refutes", x.refutes(0), -1);
        Tester.due("new free", x.free(0, 0), -1);
        Tester.due("new kinds", x.kinds(), -1);
        Tester.due("new alike", x.alike(0, 0), false);
        Tester.due("new shown", x.shown(0, -1), -1);
    }

    private static void feeding() {
        SketchFiller x = new SketchFiller();
        for (int i = 1; i <= 40; i++) Tester.due("feed " + i, x.feed(-1, 0, MIN, MAX, i), 20 * i);
        Tester.due("feed beyond", x.feed(0, 0, 0, 0, 0), -1);
        Tester.due("tape stays", x.state(5), 800);
        Tester.due("sketch beyond", x.sketch(801), -1);
        Tester.due("sketch below 0", x.sketch(-1), -1);
        Tester.due("tape stays again", x.state(5), 800);
        Tester.due("sketch 255", x.sketch(800), -3);
        Tester.due("tape is empty", x.state(5), 0);
        Tester.due("sketch of none", x.sketch(1), -1);
        Tester.due("sketch MIN", x.sketch(MIN), -1);
        Tester.due("sketch MAX", x.sketch(MAX), -1);
        // 800 bytes, the last of which counts.
        String text = "sketch 3;" + " ".repeat(784) + "spec 1;";
        Tester.due("of 800", Tester.tell(x, text), 0);
        Tester.feed(x, text);
        Tester.due("of 799", x.sketch(799), -2 - (8 * 799 + 1));
    }

    private static void telling() {
        SketchFiller x = Tester.told(LINE);
        int[] has = {3, 1, 2, 1, 1, 3, 5, -1};
        for (int what = 0; what < has.length; what++) Tester.due("has " + what, x.has(what), has[what]);
        Tester.due("has -1", x.has(-1), -1);
        Tester.due("has MIN", x.has(MIN), -1);
        Tester.due("hole 0 bits", x.hole(0, 0), 3);
        Tester.due("hole 1 bits", x.hole(1, 0), 2);
        Tester.due("hole 0 rank", x.hole(0, 1), 1);
        Tester.due("hole 1 rank", x.hole(1, 1), 2);
        Tester.due("hole 0 pin", x.hole(0, 2), -1);
        Tester.due("hole 0 other", x.hole(0, 3), -1);
        Tester.due("hole 0 below", x.hole(0, -1), -1);
        Tester.due("hole 2", x.hole(2, 0), -1);
        Tester.due("hole -1", x.hole(-1, 0), -1);
        Tester.due("hole MAX", x.hole(MAX, 0), -1);
        Tester.due("statements count all", Tester.told(
                "sketch 1;if 1{loop 1{must 1;}}else{let a=1{a=0;}}spec 1;").has(4), 5);
    }

    private static void tellingAgain() {
        SketchFiller x = Tester.told(LINE);
        x.pin(0, 1);
        x.keep(3);
        x.set(0, 4);
        x.set(1, 2);
        x.guess();
        Tester.due("none left", x.state(1), -1);
        Tester.due("no", x.state(0), 2);
        Tester.due("a fault", Tester.tell(x, "sketch 4;spec;"), -2 - (8 * 13 + 1));
        Tester.due("width stays", x.has(0), 3);
        Tester.due("pin stays", x.hole(0, 2), 1);
        Tester.due("kept stays", x.state(10), 3);
        Tester.due("unroll stays", x.state(3), 4);
        Tester.due("order stays", x.state(4), 2);
        Tester.due("state stays", x.state(0), 2);
        Tester.due("NONE", x.sketch(1), -1);
        Tester.due("pin stays again", x.hole(0, 2), 1);
        Tester.due("again", Tester.tell(x, LINE), 1);
        Tester.due("no pin", x.hole(0, 2), -1);
        Tester.due("none kept", x.state(2), 0);
        Tester.due("nothing at 10", x.state(10), -1);
        Tester.due("seeking", x.state(0), 0);
        Tester.due("no current", x.state(1), -1);
        Tester.due("unroll 0", x.state(3), 0);
        Tester.due("order 0", x.state(4), 0);
        // Verdicts of the sketch before do not stay.
        Tester.due("verdict of the one", x.verdict(9, 0), 0);
        Tester.tell(x, "sketch 5;in x 3;hole a 5;spec 0;");
        Tester.due("verdict of the other", x.verdict(9, 0), 1);
    }

    private static void holesAndGuesses() {
        SketchFiller x = Tester.told(LINE);
        Tester.due("value 9 0", x.value(9, 0), 2);
        Tester.due("value 9 1", x.value(9, 1), 1);
        Tester.due("value 31 0", x.value(31, 0), 7);
        Tester.due("value 31 1", x.value(31, 1), 3);
        Tester.due("value 32", x.value(32, 0), -1);
        Tester.due("value -1", x.value(-1, 0), -1);
        Tester.due("value k 2", x.value(0, 2), -1);
        Tester.due("value k -1", x.value(0, -1), -1);
        Tester.due("cost 31", x.cost(31), 7 + 6);
        Tester.due("cost 0", x.cost(0), 0);
        Tester.due("cost 32", x.cost(32), -1);
        Tester.due("cost MIN", x.cost(MIN), -1);
        int[] order = {0, 4, 1, 8, 5, 12, 2, 9, 16};
        for (int i = 0; i < order.length; i++) Tester.due("ranked " + i, Tester.ranked(x, i), order[i]);
        Tester.due("ranked last", Tester.ranked(x, 31), 31);
        Tester.due("ranked 32", Tester.ranked(x, 32), Tester.THROWS);
        Tester.due("ranked -1", Tester.ranked(x, -1), Tester.THROWS);
        Tester.due("ranked MAX", Tester.ranked(x, MAX), Tester.THROWS);
        x.pin(0, 7);
        Tester.due("ranked, out or not", Tester.ranked(x, 1), 4);
        SketchFiller zero = Tester.told("sketch 2;hole a 1 rank 0;hole b 2 rank 9;spec 1;");
        int[] ranks = {0, 4, 1, 5, 2, 6, 3, 7};
        for (int i = 0; i < 8; i++) Tester.due("rank 0, " + i, Tester.ranked(zero, i), ranks[i]);
        Tester.due("cost by rank 9", zero.cost(7), 27);
    }

    /** What an E comes to, in a width, with in a = 5 and hole b = 3. */
    private static void comesTo(int width, String e, int want) {
        SketchFiller x = Tester.told("sketch " + width + ";in a 3;hole b 2;var v;v=" + e + ";spec 1;");
        Tester.due(e + " in " + width, x.ends(3, 5, 0), want);
    }

    private static void numbers() {
        comesTo(4, "a+b*2", 11);
        comesTo(4, "(a+b)*2", 0);
        comesTo(4, "9+9", 2);
        comesTo(4, "a-b-1", 1);
        comesTo(4, "b-a", 14);
        comesTo(4, "-1", 15);
        comesTo(4, "-a", 11);
        comesTo(4, "~a", 10);
        comesTo(4, "-~a", 6);
        comesTo(4, "17", 1);
        comesTo(16, "99999", 99999 - 65536);
        comesTo(16, "65535*65535", 1);
        comesTo(16, "-1/2", 32767);
        comesTo(4, "7/2*2", 6);
        comesTo(4, "7*2/4", 3);
        comesTo(4, "15%4%2", 1);
        comesTo(4, "a=5", 1);
        comesTo(4, "a=4", 0);
        comesTo(4, "a<6", 1);
        comesTo(4, "a<5", 0);
        comesTo(4, "-1<a", 0);
        comesTo(4, "a<-1", 1);
        comesTo(4, "6|1&0", 6);
        comesTo(4, "6^3|8", 13);
        comesTo(4, "8|6^2", 12);
        comesTo(4, "1&3=3", 1);
        comesTo(4, "2&3=3", 0);
        comesTo(4, "2+1=3", 1);
        comesTo(4, "(1=2)=0", 1);
        comesTo(4, "-a*b", 1);
        comesTo(4, "~0", 15);
        comesTo(3, "~0", 7);
        SketchFiller one = Tester.told("sketch 1;in a 1;var v;v=a+1;spec v;");
        Tester.due("in one bit", one.ends(0, 1, 0), 0);
        // Each part is worked out, though the first would do.
        Tester.due("0 & 1/0", Tester.told("sketch 2;spec 0&1/0;").verdict(0, 0), 3);
        Tester.due("1 | 1%0", Tester.told("sketch 2;spec 1|1%0;").verdict(0, 0), 3);
        Tester.due("1/4 in two bits", Tester.told("sketch 2;spec 1/4;").verdict(0, 0), 3);
        SketchFiller five = Tester.told("sketch 4;hole a 1;hole b 2;hole c 1;hole d 2;hole e 1;var v;"
                + "v=a+b*2+c*3+d*4+e*5;spec 1;");
        Tester.due("five holes", five.ends(0b1_10_1_01_1, 0, 0), (1 + 4 + 3 + 4 + 5) & 15);
        SketchFiller ins = Tester.told("sketch 4;in a 1;in b 2;in c 3;var x;var y;var z;x=a;y=b;z=c;spec 1;");
        Tester.due("first in", ins.ends(0, 52, 0), 1);
        Tester.due("second in", ins.ends(0, 52, 1), 2);
        Tester.due("third in", ins.ends(0, 52, 2), 4);
    }

    private static void verdicts() {
        SketchFiller x = Tester.told(EACH_VERDICT);
        int[] want = {0, 1, 2, 3, 4, 5, 0, 0};
        for (int i = 0; i < 8; i++) Tester.due("verdict on " + i, x.verdict(2, i), want[i]);
        int[] by = {3, 1, 1, 1, 1, 1};
        for (int v = 0; v < 6; v++) Tester.due("by " + v, x.by(3, v), by[v]);
        Tester.due("by 6", x.by(3, 6), -1);
        Tester.due("by -1", x.by(3, -1), -1);
        Tester.due("by of none", x.by(4, 0), -1);
        Tester.due("by of -1", x.by(-1, 0), -1);
        Tester.due("verdict of none", x.verdict(4, 0), -1);
        Tester.due("verdict of -1", x.verdict(-1, 0), -1);
        Tester.due("verdict on none", x.verdict(0, 8), -1);
        Tester.due("verdict on -1", x.verdict(0, -1), -1);
        Tester.due("refuter", x.refuter(0), 1);
        Tester.due("refuter of none", x.refuter(4), -2);
        Tester.due("refuter of -1", x.refuter(-1), -2);
        Tester.due("refuter by none", Tester.told("sketch 2;in a 2;hole h 1;spec 1;").refuter(1), -1);
        // What comes first counts.
        Tester.due("must, then /", Tester.told("sketch 2;must 0;must 1/0;spec 0;").verdict(0, 0), 2);
        Tester.due("/, then must", Tester.told("sketch 2;must 0/0;must 0;spec 0;").verdict(0, 0), 3);
        Tester.due("/ in spec", Tester.told("sketch 2;spec 0%0;").verdict(0, 0), 3);
        Tester.due("/ in if", Tester.told("sketch 2;if 1/0{must 0;}spec 0;").verdict(0, 0), 3);
        Tester.due("/ in while", Tester.told("sketch 2;while 1/0 most 1{must 0;}spec 0;").verdict(0, 0), 3);
        Tester.due("/ in let", Tester.told("sketch 2;let a=1/0{must 0;}spec 0;").verdict(0, 0), 3);
        Tester.due("must in while", Tester.told("sketch 2;while 1 most 1{must 0;}spec 0;").verdict(0, 0), 2);
        Tester.due("not gone through", Tester.told("sketch 2;if 0{must 0;}while 0 most 1{must 0;}spec 2;").verdict(0, 0), 0);
    }

    private static int stepsOf(String body) {
        return Tester.told("sketch 4;var a;var b;" + body + "spec 1;").steps(0, 0);
    }

    private static void steps() {
        Tester.due("none", stepsOf(""), 0);
        Tester.due("one", stepsOf("a=1;"), 1);
        Tester.due("if 1", stepsOf("if 1{a=1;b=1;}else{a=1;}"), 3);
        Tester.due("if 0 else", stepsOf("if 0{a=1;b=1;}else{a=1;}"), 2);
        Tester.due("if 0", stepsOf("if 0{a=1;b=1;}"), 1);
        Tester.due("loop", stepsOf("loop 3{a=1;b=1;}"), 1 + 3 * 3);
        Tester.due("empty loop", stepsOf("loop 9{}"), 10);
        Tester.due("while", stepsOf("while a<3 most 3{a=a+1;}"), 1 + 3 * 2);
        Tester.due("while 0", stepsOf("while 0 most 3{a=a+1;}"), 1);
        Tester.due("while too long", stepsOf("while 1 most 3{a=a+1;}"), 1 + 3 * 2);
        Tester.due("let", stepsOf("let c=1{a=c;}"), 2);
        Tester.due("must 0", stepsOf("must 0;a=1;"), 1);
        Tester.due("division", stepsOf("a=1/0;a=1;"), 1);
        // 1 + 9 + 9 * (1 + 9) = 100, and some more.
        String hundred = "loop 9{loop 9{}}";
        Tester.due("100", stepsOf(hundred), 100);
        Tester.due("120", stepsOf(hundred + "loop 9{a=1;}a=1;"), 120);
        Tester.due("120 stand", Tester.told("sketch 4;var a;" + hundred + "loop 9{a=1;}a=1;spec 1;").verdict(0, 0), 0);
        Tester.due("121", stepsOf(hundred + "loop 9{a=1;}a=1;a=1/0;"), 120);
        Tester.due("121 do not", Tester.told("sketch 4;var a;" + hundred + "loop 9{a=1;}a=1;a=1/0;spec 1;").verdict(0, 0), 5);
        Tester.due("a round too many", Tester.told("sketch 4;" + hundred + "loop 9{}loop 8{}loop 1{}spec 1;").verdict(0, 0), 5);
        Tester.due("too long, not a step", Tester.told("sketch 4;" + hundred + "loop 9{}loop 6{}must 1;while 1 most 1{}spec 1;").verdict(0, 0), 4);
        Tester.due("a round of a while too many", Tester.told("sketch 4;" + hundred + "loop 9{}loop 7{}must 1;while 1 most 1{}spec 1;").verdict(0, 0), 5);
        SketchFiller x = Tester.told(EACH_VERDICT);
        Tester.due("steps of none", x.steps(4, 0), -1);
        Tester.due("steps on none", x.steps(0, 8), -1);
        Tester.due("steps of -1", x.steps(-1, 0), -1);
        Tester.due("steps on -1", x.steps(0, -1), -1);
    }

    private static void ends() {
        SketchFiller x = Tester.told(EACH_VERDICT);
        Tester.due("ends with 0", x.ends(0, 0, 0), 7);
        Tester.due("ends with 1", x.ends(0, 1, 0), 7);
        for (int i = 2; i < 6; i++) Tester.due("ends with " + i, x.ends(0, i, 0), -2);
        Tester.due("no such var", x.ends(0, 0, 1), -1);
        Tester.due("no such var, refuted", x.ends(0, 2, 1), -1);
        Tester.due("var -1", x.ends(0, 2, -1), -1);
        Tester.due("ends of none", x.ends(4, 0, 0), -1);
        Tester.due("ends on none", x.ends(0, 8, 0), -1);
        Tester.due("ends with / in spec", Tester.told("sketch 2;var a;spec 1/0;").ends(0, 0, 0), -2);
        // Vars are 0 at first, each run anew; a let's name may be set, and ends with its { }.
        SketchFiller y = Tester.told("sketch 4;in i 2;var a;var b;a=a+i;let c=a+1{c=c*2;b=c;}spec 1;");
        for (int i = 0; i < 4; i++) {
            Tester.due("a on " + i, y.ends(0, i, 0), i);
            Tester.due("b on " + i, y.ends(0, i, 1), 2 * i + 2);
        }
        Tester.due("lets within", Tester.told("sketch 4;var a;let b=1{let c=2{let d=4{a=b+c+d;c=8;}b=c;}a=a+b;}spec 1;").ends(0, 0, 0), 15);
        Tester.due("let in a loop", Tester.told("sketch 4;var a;loop 3{let b=a{b=b+1;a=b;}}spec 1;").ends(0, 0, 0), 3);
    }

    private static void unroll() {
        SketchFiller x = Tester.told("sketch 4;in i 4;var a;while a<i most 3{a=a+1;}spec 1;");
        Tester.due("told", x.by(0, 4), 12);
        Tester.due("what it was", x.set(0, 1), 0);
        Tester.due("fewer", x.by(0, 4), 14);
        Tester.due("what it was then", x.set(0, 9), 1);
        Tester.due("more", x.by(0, 4), 6);
        Tester.due("steps", x.steps(0, 15), 1 + 18);
        Tester.due("ends", x.ends(0, 9, 0), 9);
        Tester.due("refuter", x.refuter(0), 10);
        Tester.due("back", x.set(0, 0), 9);
        Tester.due("as told", x.refuter(0), 4);
        Tester.due("loops go as told", loopUnrolled(), 4);
    }

    private static int loopUnrolled() {
        SketchFiller x = Tester.told("sketch 4;var a;loop 4{a=a+1;}spec 1;");
        x.set(0, 2);
        return x.ends(0, 0, 0);
    }

    private static void searching() {
        SketchFiller x = Tester.told(LINE);
        Tester.due("check without current", x.check(), -1);
        Tester.due("first", x.guess(), 0);
        Tester.due("twice", x.guess(), -1);
        Tester.due("kept", x.check(), 0);
        Tester.due("no current", x.state(1), -1);
        Tester.due("check again", x.check(), -1);
        Tester.due("second", x.guess(), 1);
        Tester.due("kept then", x.check(), 1);
        Tester.due("third", x.guess(), 9);
        Tester.due("found", x.check(), -2);
        Tester.due("state", x.state(0), 1);
        Tester.due("current stays", x.state(1), 9);
        Tester.due("guess when found", x.guess(), -1);
        Tester.due("check when found", x.check(), -1);
        SketchFiller none = Tester.told("sketch 2;in a 2;hole h 1;spec a<2;");
        Tester.due("go to NO", none.go(100), 3);
        Tester.due("NO", none.state(0), 2);
        Tester.due("no current in NO", none.state(1), -1);
        Tester.due("guess in NO", none.guess(), -1);
        Tester.due("check in NO", none.check(), -1);
        Tester.due("go in NO", none.go(5), 0);
        none.drop(0);
        Tester.due("seeking again", none.state(0), 0);
        Tester.due("guess anew", none.guess(), 0);
        none.keep(3);
        Tester.due("no current behind keep", none.state(1), -1);
        Tester.due("none left", none.guess(), -2);
    }

    private static void orders() {
        // h = 0 is refuted by 1 to 6, h = 1 by 2 and 6 as well, h = 2 and 3 by 6 alone.
        String text = "sketch 3;in x 3;hole h 2;"
                + "if h=0{must x<1|x=7;}if h=1{must (x=2|x=6)=0;}if 1<h{must (x=6)=0;}spec 1;";
        int[] want = {1, 6, 6};
        for (int order = 0; order < 3; order++) {
            SketchFiller x = Tester.told(text);
            x.set(1, order);
            x.guess();
            Tester.due("order " + order, x.check(), want[order]);
        }
        // Only what refutes the current one counts; of several the least.
        SketchFiller y = Tester.told("sketch 3;in x 3;hole h 2;"
                + "if h=0{must x<3|5<x;}if h=1{must (x=1|x=4|x=5)=0;}if 1<h{must (x=1)=0;}spec 1;");
        Tester.due("the sharpest of all", y.sharpest(0), 1);
        y.set(1, 2);
        y.guess();
        Tester.due("the least of several", y.check(), 4);
        // Guesses that are out do not count.
        SketchFiller z = Tester.told("sketch 3;in x 3;hole h 2;"
                + "if h=0{must (x=3|x=4)=0;}if 0<h{must (x=4)=0;}spec 1;");
        z.pin(0, 0);
        z.set(1, 2);
        z.guess();
        Tester.due("out ones do not count", z.check(), 3);
        // The greatest may be 0, and there may be none.
        for (int order = 0; order < 3; order++) {
            SketchFiller v = Tester.told("sketch 3;in x 3;hole h 1;spec h|0<x;");
            v.set(1, order);
            Tester.due("go by " + order, v.go(9), 4);
            Tester.due("0 by " + order, v.state(10), 0);
            Tester.due("found by " + order, v.state(0), 1);
        }
        // The order may change while there is a current one.
        SketchFiller w = Tester.told(text);
        w.guess();
        w.set(1, 1);
        Tester.due("current stays", w.state(1), 0);
        Tester.due("the new order", w.check(), 6);
    }

    private static void fortyKept() {
        SketchFiller x = Tester.told(ONE_EACH);
        for (int i = 0; i < 40; i++) Tester.due("keep " + i, x.keep(63 - i), i + 1);
        Tester.due("one too many", x.keep(0), -1);
        Tester.due("the same", x.keep(63), -1);
        Tester.due("left", x.many(0), 24);
        Tester.due("current", x.guess(), 0);
        Tester.due("refuted, but forty", x.check(), -3);
        Tester.due("nothing is done", x.state(1), 0);
        Tester.due("still seeking", x.state(0), 0);
        Tester.due("forty", x.state(2), 40);
        Tester.due("go does none", x.go(10), 0);
        Tester.due("keep keeps current", x.keep(0), -1);
        Tester.due("still current", x.state(1), 0);
        Tester.due("the last kept", x.state(49), 24);
        Tester.due("behind it", x.state(50), -1);
        Tester.due("core is all", x.core(-1), 40);
        Tester.due("the last of core", x.core(39), 24);
        Tester.due("needed", x.needed(39), 1);
        Tester.due("not needed of none", x.needed(40), -1);
        Tester.due("drop the first", x.drop(0), 63);
        Tester.due("go: guess, check, guess", x.go(100), 3);
        Tester.due("forty again", x.state(2), 40);
        Tester.due("the newest is last", x.state(49), 0);
        Tester.due("stuck", x.check(), -3);
        // Forty are kept, but the current one stands for all: found.
        SketchFiller y = Tester.told("sketch 6;in x 6;hole h 1;spec h;");
        for (int i = 0; i < 40; i++) y.keep(i);
        Tester.due("current 1", y.guess(), 1);
        Tester.due("found with forty", y.check(), -2);
    }

    private static void going() {
        SketchFiller x = Tester.told(LINE);
        Tester.due("go 0", x.go(0), -1);
        Tester.due("go -1", x.go(-1), -1);
        Tester.due("go 101", x.go(101), -1);
        Tester.due("go MAX", x.go(MAX), -1);
        Tester.due("nothing done", x.state(1), -1);
        Tester.due("go 1", x.go(1), 1);
        Tester.due("current", x.state(1), 0);
        Tester.due("go 2", x.go(2), 2);
        Tester.due("current then", x.state(1), 1);
        Tester.due("go 100", x.go(100), 3);
        Tester.due("found", x.state(0), 1);
        Tester.due("go no more", x.go(100), 0);
        Tester.due("up to forty", Tester.told(ONE_EACH).go(100), 81);
    }

    private static void pins() {
        SketchFiller x = Tester.told(LINE);
        x.guess();
        Tester.due("to none already", x.pin(0, -1), false);
        Tester.due("too large", x.pin(1, 4), false);
        Tester.due("below NONE", x.pin(1, -2), false);
        Tester.due("MIN", x.pin(1, MIN), false);
        Tester.due("no such hole", x.pin(2, 0), false);
        Tester.due("hole -1", x.pin(-1, 0), false);
        Tester.due("refused: current stays", x.state(1), 0);
        Tester.due("pin", x.pin(1, 3), true);
        Tester.due("current none", x.state(1), -1);
        Tester.due("pinned", x.hole(1, 2), 3);
        Tester.due("already", x.pin(1, 3), false);
        Tester.due("not out", x.many(2), 8);
        Tester.due("the first not out", x.many(5), 3);
        Tester.due("another value", x.pin(1, 1), true);
        Tester.due("the first not out then", x.many(5), 1);
        Tester.due("both", x.pin(0, 2), true);
        Tester.due("one", x.many(2), 1);
        Tester.due("true", x.many(1), 1);
        Tester.due("go", x.go(9), 2);
        Tester.due("found", x.state(0), 1);
        Tester.due("to none", x.pin(0, -1), true);
        Tester.due("seeking", x.state(0), 0);
        Tester.due("eight", x.many(2), 8);
        Tester.due("verdict, out or not", x.verdict(0, 0), 1);
    }

    private static void keeping() {
        SketchFiller x = Tester.told(LINE);
        Tester.due("keep 8", x.keep(8), -1);
        Tester.due("keep -1", x.keep(-1), -1);
        Tester.due("keep 5", x.keep(5), 1);
        Tester.due("keep 2", x.keep(2), 2);
        Tester.due("keep 7", x.keep(7), 3);
        x.guess();
        int current = x.state(1);
        Tester.due("keep 2 again", x.keep(2), -1);
        Tester.due("refused: current stays", x.state(1), current);
        Tester.due("drop 3", x.drop(3), -1);
        Tester.due("drop -1", x.drop(-1), -1);
        Tester.due("drop MAX", x.drop(MAX), -1);
        Tester.due("refused again", x.state(1), current);
        Tester.due("drop 1", x.drop(1), 2);
        Tester.due("current none", x.state(1), -1);
        Tester.due("the first", x.state(10), 5);
        Tester.due("the second", x.state(11), 7);
        Tester.due("no third", x.state(12), -1);
        Tester.due("MAX", x.state(MAX), -1);
        Tester.due("keep 2 behind", x.keep(2), 3);
        Tester.due("the third", x.state(12), 2);
    }

    private static void setting() {
        SketchFiller x = Tester.told(LINE);
        x.go(1);
        Tester.due("unroll 10", x.set(0, 10), -1);
        Tester.due("unroll -1", x.set(0, -1), -1);
        Tester.due("order 3", x.set(1, 3), -1);
        Tester.due("order -1", x.set(1, -1), -1);
        Tester.due("what 2", x.set(2, 0), -1);
        Tester.due("what -1", x.set(-1, 0), -1);
        Tester.due("unroll as it is", x.set(0, 0), 0);
        Tester.due("current stays", x.state(1), 0);
        Tester.due("order 2", x.set(1, 2), 0);
        Tester.due("order was 2", x.set(1, 2), 2);
        Tester.due("order told", x.state(4), 2);
        Tester.due("current stays then", x.state(1), 0);
        Tester.due("unroll 9", x.set(0, 9), 0);
        Tester.due("current none", x.state(1), -1);
        Tester.due("unroll told", x.state(3), 9);
        x.go(100);
        Tester.due("found", x.state(0), 1);
        Tester.due("order keeps state", x.set(1, 0), 2);
        Tester.due("found still", x.state(0), 1);
        Tester.due("unroll as it is", x.set(0, 9), 9);
        Tester.due("found still then", x.state(0), 1);
        Tester.due("unroll other", x.set(0, 8), 9);
        Tester.due("seeking", x.state(0), 0);
        for (int what = 6; what < 10; what++) Tester.due("state " + what, x.state(what), -1);
        Tester.due("state -1", x.state(-1), -1);
        Tester.due("state MIN", x.state(MIN), -1);
        x.feed(0, 0, 0, 0, 0);
        Tester.due("state 5", x.state(5), 20);
    }

    private static void leftAndTrue() {
        SketchFiller x = Tester.told(LINE);
        int[] all = {32, 1, 32, 0, 9, 0};
        for (int what = 0; what < 6; what++) Tester.due("many " + what, x.many(what), all[what]);
        Tester.due("many 6", x.many(6), -1);
        Tester.due("many -1", x.many(-1), -1);
        x.keep(0);
        Tester.due("left", x.many(0), 8);
        Tester.due("first left", x.many(3), 1);
        x.pin(0, 0);
        Tester.due("left, pinned", x.many(0), 1);
        Tester.due("none true", x.many(1), 0);
        Tester.due("first true: none", x.many(4), -1);
        x.pin(1, 0);
        Tester.due("none left", x.many(0), 0);
        Tester.due("first left: none", x.many(3), -1);
        Tester.due("not out", x.many(2), 1);
        // By cost, not by number.
        SketchFiller y = Tester.told("sketch 2;hole a 1;hole b 2 rank 3;spec a|b;");
        Tester.due("first by cost", y.many(3), 0);
        Tester.due("first true by cost", y.many(4), 4);
        y.keep(0);
        Tester.due("first left by cost", y.many(3), 4);
    }

    private static void sharpness() {
        SketchFiller x = Tester.told("sketch 3;in x 3;hole h 2;must h<x|x=0|3<x;must (x=5&0<h)=0;must (x=6&0<h)=0;spec 1;");
        int[] refuted = {0, 3, 2, 1, 0, 3, 3, 0};
        for (int i = 0; i < 8; i++) Tester.due("refutes " + i, x.refutes(i), refuted[i]);
        Tester.due("refutes 8", x.refutes(8), -1);
        Tester.due("refutes -1", x.refutes(-1), -1);
        Tester.due("the least of several", x.sharpest(0), 1);
        Tester.due("how many", x.sharpest(1), 3);
        Tester.due("others", x.sharpest(2), -1);
        Tester.due("-1", x.sharpest(-1), -1);
        x.keep(1);
        Tester.due("left alone count", x.refutes(5), 0);
        Tester.due("none refutes any", x.sharpest(0), -1);
        Tester.due("none", x.sharpest(1), 0);
        x.drop(0);
        x.pin(0, 3);
        Tester.due("not out alone count", x.refutes(1), 1);
        Tester.due("sharpest of one", x.sharpest(1), 1);
        Tester.due("the least of these", x.sharpest(0), 1);
    }

    private static void free() {
        SketchFiller x = Tester.told("sketch 3;in x 2;hole a 2;hole b 2;hole c 1;spec (b=2)|(b=1&a<2);");
        Tester.due("a with b 2", x.free(4, 0), 4);
        Tester.due("a with b 1", x.free(2, 0), 2);
        Tester.due("a with b 0", x.free(0, 0), 0);
        Tester.due("b with a 0", x.free(0, 1), 2);
        Tester.due("b with a 3", x.free(24, 1), 1);
        Tester.due("c with b 1", x.free(2, 2), 2);
        Tester.due("c with b 0", x.free(1, 2), 0);
        x.pin(0, 3);
        x.keep(0);
        Tester.due("pins or not", x.free(4, 0), 4);
        Tester.due("no such hole", x.free(0, 3), -1);
        Tester.due("hole -1", x.free(0, -1), -1);
        Tester.due("no such guess", x.free(32, 0), -1);
        Tester.due("guess -1", x.free(-1, 0), -1);
    }

    private static void neededAndCore() {
        // An input x refutes the guesses h whose bit is among those of x.
        SketchFiller x = Tester.told("sketch 4;in x 4;hole h 2;var m;m=1;"
                + "if h=1{m=2;}if h=2{m=4;}if h=3{m=8;}spec (x&m)=0;");
        int[] kept = {1, 3, 2, 4, 0};
        for (int input : kept) x.keep(input);
        int[] needed = {0, 0, 0, 1, 0};
        for (int i = 0; i < 5; i++) Tester.due("needed " + i, x.needed(i), needed[i]);
        Tester.due("needed 5", x.needed(5), -1);
        Tester.due("needed -1", x.needed(-1), -1);
        // The latest first: 0 goes, 4 stays, 2 goes, 3 stays, 1 goes.
        Tester.due("core", x.core(-1), 2);
        Tester.due("core 0", x.core(0), 3);
        Tester.due("core 1", x.core(1), 4);
        Tester.due("core 2", x.core(2), -1);
        Tester.due("core -2", x.core(-2), -1);
        Tester.due("core MIN", x.core(MIN), -1);
        Tester.due("core MAX", x.core(MAX), -1);
        Tester.due("kept as they were", x.state(2), 5);
        // Of two that do the same the latest goes.
        SketchFiller y = Tester.told("sketch 4;in x 4;hole h 1;spec h;");
        y.keep(9);
        y.keep(4);
        Tester.due("the first stays", y.core(0), 9);
        Tester.due("one stays", y.core(-1), 1);
        Tester.due("neither is needed", y.needed(0) + y.needed(1), 0);
        y.pin(0, 1);
        Tester.due("out ones do not count", y.core(-1), 0);
        Tester.due("nothing in it", y.core(0), -1);
        y.pin(0, 0);
        y.drop(0);
        Tester.due("needed alone", y.needed(0), 1);
        Tester.due("core without kept", Tester.told(LINE).core(-1), 0);
    }

    private static void kindsAndAlike() {
        // 0 and 1 are alike; 2 is refuted otherwise on 1; 3 stands for all.
        SketchFiller x = Tester.told("sketch 3;in x 1;hole h 2;if h=2{must x=0;}spec h=3|h=2|x=0;");
        Tester.due("alike", x.alike(0, 1), true);
        Tester.due("alike to itself", x.alike(2, 2), true);
        Tester.due("another verdict", x.alike(0, 2), false);
        Tester.due("stands", x.alike(0, 3), false);
        Tester.due("none such", x.alike(0, 4), false);
        Tester.due("none such, both", x.alike(4, 4), false);
        Tester.due("-1", x.alike(-1, -1), false);
        Tester.due("three kinds", x.kinds(), 3);
        x.keep(1);
        Tester.due("of those left", x.kinds(), 1);
        x.drop(0);
        x.pin(0, 1);
        Tester.due("of those not out", x.kinds(), 1);
        Tester.due("alike, out or not", x.alike(0, 1), true);
        x.keep(1);
        Tester.due("none left", x.kinds(), 0);
    }

    private static void shown() {
        SketchFiller x = Tester.told("sketch 6;in ab 3;hole h 6 rank 3;hole hh 1;var v;\n"
                + "v=007*h-(~ab);if v<hh{must 00;}else{}\nloop 3{}while v most 2{let abcdef=99999{abcdef=h;}}spec v=ab|-h;\n ");
        Tester.due("shown 127", Tester.shown(x, 127), "v = 7 * 63 - ( ~ ab ) ; if v < 1 { must 0 ; } else { } "
                + "loop 3 { } while v most 2 { let abcdef = 99999 { abcdef = 63 ; } } spec v = ab | - 63 ;");
        Tester.due("shown 10", Tester.shown(x, 10), "v = 7 * 5 - ( ~ ab ) ; if v < 0 { must 0 ; } else { } "
                + "loop 3 { } while v most 2 { let abcdef = 99999 { abcdef = 5 ; } } spec v = ab | - 5 ;");
        int bytes = x.shown(10, -1);
        Tester.due("the last", x.shown(10, bytes - 1), ';');
        Tester.due("behind it", x.shown(10, bytes), -1);
        Tester.due("far behind it", x.shown(10, MAX), -1);
        Tester.due("-2", x.shown(10, -2), -1);
        Tester.due("MIN", x.shown(10, MIN), -1);
        Tester.due("no such guess", x.shown(128, -1), -1);
        Tester.due("guess -1", x.shown(-1, 0), -1);
        Tester.due("spec alone", Tester.shown(Tester.told("sketch 2;hole a 2;spec a;"), 3), "spec 3 ;");
    }

    private static void withoutHolesOrIns() {
        SketchFiller x = Tester.told("sketch 2;spec 1;");
        Tester.due("no bits of ins", x.has(5), 0);
        Tester.due("no bits of holes", x.has(6), 0);
        Tester.due("one guess", x.many(0), 1);
        Tester.due("cost", x.cost(0), 0);
        Tester.due("guess 1", x.cost(1), -1);
        Tester.due("ranked", Tester.ranked(x, 0), 0);
        Tester.due("ranked 1", Tester.ranked(x, 1), Tester.THROWS);
        Tester.due("verdict", x.verdict(0, 0), 0);
        Tester.due("input 1", x.verdict(0, 1), -1);
        Tester.due("value", x.value(0, 0), -1);
        Tester.due("free", x.free(0, 0), -1);
        Tester.due("go", x.go(100), 2);
        Tester.due("found", x.state(0), 1);
        SketchFiller y = Tester.told("sketch 2;spec 0;");
        Tester.due("go to NO", y.go(100), 3);
        Tester.due("kept", y.state(10), 0);
        Tester.due("NO", y.state(0), 2);
    }

    /** The most guesses and inputs, and long runs of each, still end soon. */
    private static void largest() {
        StringBuilder sum = new StringBuilder("v");
        while (sum.length() < 500) sum.append("+x*h");
        SketchFiller x = Tester.told("sketch 16;in x 6;in y 1;hole h 6;hole g 1;var v;loop 9{loop 9{v=" + sum + ";}}spec 1;");
        Tester.due("all too long", x.by(0, 5), 128);
        Tester.due("all alike", x.kinds(), 1);
        Tester.due("sharpest", x.sharpest(1), 128);
        Tester.due("none true", x.many(1), 0);
        // Values held back at all levels, with six open: the most that a run holds at once.
        String level = "1|1&1=1+1*";
        Tester.due("deepest", Tester.told("sketch 4;spec " + (level + "(").repeat(6) + level + "1" + ")".repeat(6) + ";").verdict(0, 0), 0);
    }
}
