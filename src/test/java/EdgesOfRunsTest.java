/**
 * Terms 2 up to UNROLL, and promises 4 to 12: numbers at the ends of their WIDTH, guesses and inputs
 * at the ends of their bits, runs that just stand and those that just do not.
 */
public final class EdgesOfRunsTest {
    private static final int MIN = Integer.MIN_VALUE;
    private static final int MAX = Integer.MAX_VALUE;
    private static final int[] FAR = {-2, MIN, MAX, MIN + 1, MAX - 1, 1 << 16, 1 << 30};

    public static void main(String[] args) {
        lowestBits();
        numbersTold();
        comparedAboveNone();
        divided();
        dividedByZero();
        dividedByZeroOften();
        eachPartWorkedOut();
        leftFirst();
        bitsBehindOneAnother();
        inputsLikewise();
        withoutHoles();
        withoutIns();
        mostOfBoth();
        costs();
        byCostThenNumber();
        varsAreZeroAtFirst();
        stepsOfEach();
        stepsOf120();
        rounds();
        whileTimes();
        whileBehindTheLast();
        ifNotZero();
        lets();
        whatComesFirst();
        unroll();
        has();
        hole();
        endsOfEach();
        refuters();
        noSuchRun();
        smallerBehindLarger();
        Tester.end();
    }

    private static int comesTo(int width, String e) {
        return Tester.told("sketch " + width + ";var v;v=" + e + ";spec 1;").ends(0, 0, 0);
    }

    private static int verdictOf(String body) {
        return Tester.told("sketch 4;var v;" + body).verdict(0, 0);
    }

    private static int stepsOf(String body) {
        return Tester.told("sketch 4;var v;" + body).steps(0, 0);
    }

    // ---- numbers

    private static void lowestBits() {
        Tester.by("All numbers are 0 to 2 to the WIDTH less 1, of all that is worked out the lowest WIDTH bits");
        for (int w = 1; w <= 16; w++) {
            int most = (1 << w) - 1;
            Tester.due("the greatest of " + w, comesTo(w, "" + most), most);
            Tester.due("one more in " + w, comesTo(w, most + "+1"), 0);
            Tester.due("one more, once more, in " + w, comesTo(w, most + "+1+1"), 1);
            Tester.due("one less than 0 in " + w, comesTo(w, "0-1"), most);
            Tester.due("- of 1 in " + w, comesTo(w, "-1"), most);
            Tester.due("- of 0 in " + w, comesTo(w, "-0"), 0);
            Tester.due("- of the greatest in " + w, comesTo(w, "-" + most), 1);
            Tester.due("~ of 0 in " + w, comesTo(w, "~0"), most);
            Tester.due("~ of the greatest in " + w, comesTo(w, "~" + most), 0);
            Tester.due("times itself in " + w, comesTo(w, most + "*" + most), 1);
            Tester.due("times 2 in " + w, comesTo(w, most + "*2"), most - 1);
            Tester.due("twice in " + w, comesTo(w, most + "+" + most), most - 1);
            Tester.due("the sum is cut ahead of / in " + w, comesTo(w, "(" + most + "+1)/1"), 0);
            Tester.due("the greatest by itself in " + w, comesTo(w, most + "/" + most), 1);
            Tester.due("left by itself in " + w, comesTo(w, most + "%" + most), 0);
        }
    }

    private static void numbersTold() {
        Tester.by("(of a NUMBER, too)");
        for (int w = 1; w <= 16; w++) {
            int more = 1 << w;
            Tester.due("one more than the greatest of " + w, comesTo(w, "" + more), 0);
            Tester.due("and one more of " + w, comesTo(w, "" + (more + 1)), 1);
            Tester.due("99999 in " + w, comesTo(w, "99999"), 99999 & (more - 1));
            Tester.due("cut ahead of < in " + w, comesTo(w, more + "<1"), 1);
            Tester.due("cut ahead of = in " + w, comesTo(w, more + "=0"), 1);
            Tester.due("cut ahead of / in " + w, Tester.told("sketch " + w + ";spec 1/" + more + ";").verdict(0, 0), 3);
            Tester.due("cut in must of " + w, Tester.told("sketch " + w + ";must " + more + ";spec 1;").verdict(0, 0), 2);
            Tester.due("cut in spec of " + w, Tester.told("sketch " + w + ";spec " + more + ";").verdict(0, 0), 1);
            Tester.due("cut in let of " + w, Tester.told("sketch " + w + ";let a=" + more + "{must a=0;}spec 1;").verdict(0, 0), 0);
            // What is told behind loop and most is no number that is worked out.
            Tester.due("rounds are not cut in " + w, Tester.told("sketch " + w + ";loop 9{}spec 1;").steps(0, 0), 10);
            Tester.due("most is not cut in " + w, Tester.told("sketch " + w + ";while 1 most 8{}spec 1;").steps(0, 0), 9);
        }
    }

    private static void comparedAboveNone() {
        Tester.by("= and < tell 1 or 0 (< as numbers above 0)");
        for (int w = 2; w <= 16; w++) {
            int most = (1 << w) - 1;
            int half = 1 << (w - 1);
            Tester.due("0 < greatest in " + w, comesTo(w, "0<" + most), 1);
            Tester.due("greatest < 0 in " + w, comesTo(w, most + "<0"), 0);
            Tester.due("-1 < 0 in " + w, comesTo(w, "-1<0"), 0);
            Tester.due("half - 1 < half in " + w, comesTo(w, (half - 1) + "<" + half), 1);
            Tester.due("half < half - 1 in " + w, comesTo(w, half + "<" + (half - 1)), 0);
            Tester.due("greatest - 1 < greatest in " + w, comesTo(w, (most - 1) + "<" + most), 1);
            Tester.due("itself in " + w, comesTo(w, most + "<" + most), 0);
            Tester.due("0 < 0 in " + w, comesTo(w, "0<0"), 0);
            Tester.due("= in " + w, comesTo(w, most + "=" + most), 1);
            Tester.due("not = in " + w, comesTo(w, most + "=" + (most - 1)), 0);
            Tester.due("-1 is the greatest in " + w, comesTo(w, "-1=" + most), 1);
        }
    }

    private static void divided() {
        Tester.by("/ downwards, % what is left");
        int[][] rows = {{0, 1, 0, 0}, {1, 2, 0, 1}, {6, 7, 0, 6}, {7, 7, 1, 0}, {8, 7, 1, 1}, {13, 7, 1, 6}, {14, 7, 2, 0}, {15, 1, 15, 0}, {15, 15, 1, 0}, {14, 15, 0, 14}};
        for (int[] r : rows) {
            Tester.due(r[0] + "/" + r[1], comesTo(4, r[0] + "/" + r[1]), r[2]);
            Tester.due(r[0] + "%" + r[1], comesTo(4, r[0] + "%" + r[1]), r[3]);
        }
        Tester.due("-1/2 of 16", comesTo(16, "-1/2"), 32767);
        Tester.due("-1%2 of 16", comesTo(16, "-1%2"), 1);
        Tester.due("1/-1", comesTo(4, "1/-1"), 0);
        Tester.due("-(1/2)", comesTo(4, "-(1/2)"), 0);
    }

    private static void dividedByZero() {
        Tester.by("3 / or % by 0");
        for (String op : new String[] {"/", "%"}) {
            Tester.due("by 1", verdictOf("v=5" + op + "1;spec 1;"), 0);
            Tester.due("by 0", verdictOf("v=5" + op + "0;spec 1;"), 3);
            Tester.due("0 by 0", verdictOf("v=0" + op + "0;spec 1;"), 3);
            Tester.due("by 15", verdictOf("v=5" + op + "15;spec 1;"), 0);
            Tester.due("by 16 in four bits", verdictOf("v=5" + op + "16;spec 1;"), 3);
            Tester.due("by 15+1", verdictOf("v=5" + op + "(15+1);spec 1;"), 3);
            Tester.due("by v that is 0", verdictOf("v=5" + op + "v;spec 1;"), 3);
            Tester.due("by -0", verdictOf("v=5" + op + "-0;spec 1;"), 3);
            Tester.due("by ~15", verdictOf("v=5" + op + "~15;spec 1;"), 3);
            Tester.due("by 1=2", verdictOf("v=5" + op + "(1=2);spec 1;"), 3);
            for (int i = 0; i < 16; i++) {
                SketchFiller x = Tester.told("sketch 4;in i 4;spec 1|1" + op + "i;");
                Tester.due("by input " + i, x.verdict(0, i), i == 0 ? 3 : 0);
            }
        }
    }

    private static void dividedByZeroOften() {
        Tester.by("3 / or % by 0, whatever runs were before");
        SketchFiller x = Tester.told("sketch 6;in x 6;in y 1;spec 1|2&3=4+5*(6/(x/63));");
        for (int input = 0; input < 128; input++) Tester.due("on " + input, x.verdict(0, input), input < 126 ? 3 : 0);
        for (int input = 0; input < 128; input++) Tester.due("steps on " + input, x.steps(0, input), 0);
    }

    private static void eachPartWorkedOut() {
        Tester.by("Each part of an E is worked out");
        for (String e : new String[] {"0&1/0", "1|1/0", "0*(1%0)", "1/0&0", "1/0|1", "1^1/0", "0=1/0", "0<1/0", "(1/0)*0", "0/(1/0)", "-(1/0)", "~(1%0)"})
            Tester.due(e, verdictOf("spec " + e + ";"), 3);
    }

    private static void leftFirst() {
        Tester.by("(Those on the left first.)");
        Tester.due("8-4-2", comesTo(4, "8-4-2"), 2);
        Tester.due("8-4+2", comesTo(4, "8-4+2"), 6);
        Tester.due("8/4/2", comesTo(4, "8/4/2"), 1);
        Tester.due("8/4*2", comesTo(4, "8/4*2"), 4);
        Tester.due("7%4*2", comesTo(4, "7%4*2"), 6);
        Tester.due("2*7%4", comesTo(4, "2*7%4"), 2);
        Tester.due("1+2*3", comesTo(4, "1+2*3"), 7);
        Tester.due("2*3+1", comesTo(4, "2*3+1"), 7);
        Tester.due("8-4/2", comesTo(4, "8-4/2"), 6);
        Tester.due("8-5%3", comesTo(4, "8-5%3"), 6);
        Tester.due("1<2+3", comesTo(4, "1<2+3"), 1);
        Tester.due("3=1+2", comesTo(4, "3=1+2"), 1);
        Tester.due("1|2^3", comesTo(4, "1|2^3"), 0);
        Tester.due("3^2|1", comesTo(4, "3^2|1"), 1);
        Tester.due("1|2&4", comesTo(4, "1|2&4"), 1);
        Tester.due("1^3&1", comesTo(4, "1^3&1"), 0);
        Tester.due("-2*3", comesTo(4, "-2*3"), 10);
        Tester.due("~1+1", comesTo(4, "~1+1"), 15);
        Tester.due("1+2<3+1", comesTo(4, "1+2<3+1"), 1);
        Tester.due("6&2=2", comesTo(4, "6&2=2"), 0);
    }

    // ---- guesses and inputs

    private static void bitsBehindOneAnother() {
        Tester.by("bits of all holes behind one another, the first hole's highest; 6: NONE: none such");
        SketchFiller x = Tester.told("sketch 3;hole a 1;hole b 3;hole c 2;hole d 1;spec 1;");
        int[] shift = {6, 3, 1, 0};
        int[] most = {1, 7, 3, 1};
        for (int k = 0; k < 4; k++) {
            Tester.due("all bits, hole " + k, x.value(127, k), most[k]);
            Tester.due("no bits, hole " + k, x.value(0, k), 0);
            Tester.due("its bits alone, hole " + k, x.value(most[k] << shift[k], k), most[k]);
            Tester.due("the others' bits, hole " + k, x.value(127 - (most[k] << shift[k]), k), 0);
            Tester.due("its lowest bit, hole " + k, x.value(1 << shift[k], k), 1);
        }
        Tester.due("the last hole", x.value(127, 3), 1);
        Tester.due("the first that is none", x.value(127, 4), -1);
        Tester.due("hole -1", x.value(127, -1), -1);
        Tester.due("the first GUESS that is none", x.value(128, 3), -1);
        Tester.due("guess -1", x.value(-1, 3), -1);
        for (int far : FAR) {
            Tester.due("guess " + far, x.value(far, 0), -1);
            Tester.due("hole " + far, x.value(0, far), -1);
        }
        SketchFiller five = Tester.told("sketch 3;hole a 1;hole b 1;hole c 1;hole d 1;hole e 3;spec 1;");
        Tester.due("the fifth", five.value(127, 4), 7);
        Tester.due("no sixth", five.value(127, 5), -1);
        SketchFiller six = Tester.told("sketch 6;hole a 6;spec 1;");
        for (int guess = 0; guess < 64; guess++) Tester.due("of one hole " + guess, six.value(guess, 0), guess);
        Tester.due("64 of one hole", six.value(64, 0), -1);
    }

    private static void inputsLikewise() {
        Tester.by("An INPUT likewise of ins");
        SketchFiller x = Tester.told("sketch 4;in a 2;in b 1;in c 4;var u;var v;var w;u=a;v=b;w=c;spec 1;");
        for (int input = 0; input < 128; input++) {
            Tester.due("first of " + input, x.ends(0, input, 0), input >> 5);
            Tester.due("second of " + input, x.ends(0, input, 1), input >> 4 & 1);
            Tester.due("third of " + input, x.ends(0, input, 2), input & 15);
        }
        Tester.due("128", x.ends(0, 128, 0), -1);
    }

    private static void withoutHoles() {
        Tester.by("Without holes there is one GUESS, 0");
        String text = "sketch 2;in x 2;var v;v=x;spec x<3;";
        SketchFiller x = Tester.told(text);
        Tester.due("bits of holes", x.has(6), 0);
        Tester.due("cost 0", x.cost(0), 0);
        Tester.due("ranked 0", Tester.ranked(x, 0), 0);
        Tester.due("verdict", x.verdict(0, 3), 1);
        Tester.due("steps", x.steps(0, 3), 1);
        Tester.due("ends", x.ends(0, 3, 0), 3);
        Tester.due("refuter", x.refuter(0), 3);
        Tester.due("by", x.by(0, 0), 3);
        Tester.due("alike", x.alike(0, 0), true);
        Tester.due("shown", Tester.shown(x, 0), "v = x ; spec x < 3 ;");
        Tester.due("not out", x.many(2), 1);
        Tester.due("left", x.many(0), 1);
        Tester.due("true", x.many(1), 0);
        Tester.due("kinds", x.kinds(), 1);
        Tester.due("guess", x.guess(), 0);
        Tester.due("check", x.check(), 3);
        Tester.due("none left", x.guess(), -2);
        Tester.due("no kinds", x.kinds(), 0);
        SketchFiller y = Tester.told(text);
        Tester.due("cost 1", y.cost(1), -1);
        Tester.due("ranked 1", Tester.ranked(y, 1), Tester.THROWS);
        Tester.due("verdict of 1", y.verdict(1, 0), -1);
        Tester.due("steps of 1", y.steps(1, 0), -1);
        Tester.due("ends of 1", y.ends(1, 0, 0), -1);
        Tester.due("refuter of 1", y.refuter(1), -2);
        Tester.due("by of 1", y.by(1, 0), -1);
        Tester.due("alike to 1", y.alike(0, 1), false);
        Tester.due("shown of 1", y.shown(1, -1), -1);
        Tester.due("no hole", y.hole(0, 0), -1);
        Tester.due("no value", y.value(0, 0), -1);
        Tester.due("no hole is free", y.free(0, 0), -1);
        Tester.due("no pin", y.pin(0, 0), false);
        Tester.due("no pin to none", y.pin(0, -1), false);
    }

    private static void withoutIns() {
        Tester.by("without ins one INPUT, 0");
        String text = "sketch 2;hole h 2;spec h=2;";
        SketchFiller x = Tester.told(text);
        Tester.due("bits of ins", x.has(5), 0);
        Tester.due("verdict on 0", x.verdict(1, 0), 1);
        Tester.due("refuter", x.refuter(1), 0);
        Tester.due("refuter of the true one", x.refuter(2), -1);
        Tester.due("by", x.by(1, 1), 1);
        Tester.due("refutes 0", x.refutes(0), 3);
        Tester.due("sharpest", x.sharpest(0), 0);
        Tester.due("keep 0", x.keep(0), 1);
        Tester.due("keep 0 again", x.keep(0), -1);
        Tester.due("left", x.many(0), 1);
        Tester.due("needed", x.needed(0), 1);
        Tester.due("verdict on 1", x.verdict(1, 1), -1);
        Tester.due("steps on 1", x.steps(1, 1), -1);
        Tester.due("ends on 1", x.ends(1, 1, 0), -1);
        Tester.due("refutes 1", x.refutes(1), -1);
        Tester.due("keep 1", x.keep(1), -1);
        for (int order = 0; order < 3; order++) {
            SketchFiller y = Tester.told(text);
            y.set(1, order);
            Tester.due("guess, check, guess, check by " + order, y.go(100), 4);
            Tester.due("found by " + order, y.state(1), 2);
        }
        SketchFiller none = Tester.told("sketch 1;spec 0;");
        Tester.due("neither holes nor ins", none.go(100), 3);
        Tester.due("NO", none.state(0), 2);
    }

    private static void mostOfBoth() {
        Tester.by("of 7 bits together: GUESSES and INPUTS are 0 to 127");
        SketchFiller x = Tester.told("sketch 6;in x 6;in y 1;hole h 6;hole g 1;var v;v=x*2+y;spec 0<v|0<h;");
        Tester.due("the last of both", x.verdict(127, 127), 0);
        Tester.due("its end", x.ends(127, 127, 0), 63);
        Tester.due("the first of both", x.verdict(0, 0), 1);
        Tester.due("guess 128", x.verdict(128, 0), -1);
        Tester.due("input 128", x.verdict(0, 128), -1);
        Tester.due("cost 127", x.cost(127), 64);
        Tester.due("cost 128", x.cost(128), -1);
        Tester.due("ranked 127", Tester.ranked(x, 127), 127);
        Tester.due("ranked 128", Tester.ranked(x, 128), Tester.THROWS);
        Tester.due("refuter 127", x.refuter(127), -1);
        Tester.due("refuter 128", x.refuter(128), -2);
        Tester.due("keep 127", x.keep(127), 1);
        Tester.due("keep 128", x.keep(128), -1);
        Tester.due("refutes 127", x.refutes(127), 0);
        Tester.due("refutes 128", x.refutes(128), -1);
        Tester.due("by 127", x.by(127, 0), 128);
        Tester.due("by 128", x.by(128, 0), -1);
        Tester.due("all left", x.many(0), 128);
    }

    private static void costs() {
        Tester.by("COST of a GUESS: RANK times value of each hole, together; 7: NONE: none such");
        SketchFiller x = Tester.told("sketch 6;hole a 6 rank 9;hole b 1 rank 9;spec 1;");
        Tester.due("the greatest", x.cost(127), 9 * 63 + 9);
        Tester.due("the least", x.cost(0), 0);
        Tester.due("of b", x.cost(1), 9);
        Tester.due("of a", x.cost(2), 9);
        Tester.due("128", x.cost(128), -1);
        Tester.due("-1", x.cost(-1), -1);
        for (int far : FAR) Tester.due("cost " + far, x.cost(far), -1);
        SketchFiller zero = Tester.told("sketch 6;hole a 6 rank 0;hole b 1 rank 0;spec 1;");
        Tester.due("rank 0", zero.cost(127), 0);
        SketchFiller small = Tester.told("sketch 1;hole a 1 rank 9;hole b 1 rank 9;hole c 1;spec 1;");
        Tester.due("costs are of no WIDTH", small.cost(7), 19);
        SketchFiller five = Tester.told("sketch 2;hole a 1 rank 1;hole b 1 rank 2;hole c 2 rank 3;hole d 1 rank 4;hole e 1 rank 5;spec 1;");
        Tester.due("of five", five.cost(63), 1 + 2 + 9 + 4 + 5);
        Tester.due("the last of five", five.cost(1), 5);
        Tester.due("64", five.cost(64), -1);
    }

    private static void byCostThenNumber() {
        Tester.by("GUESSES go by COST, the least first, of one COST by number; 8: NoSuchElementException: none such");
        SketchFiller x = Tester.told("sketch 6;hole a 6 rank 0;hole b 1 rank 3;spec 1;");
        for (int i = 0; i < 64; i++) Tester.due("b 0, " + i, Tester.ranked(x, i), 2 * i);
        for (int i = 0; i < 64; i++) Tester.due("b 1, " + i, Tester.ranked(x, 64 + i), 2 * i + 1);
        SketchFiller y = Tester.told("sketch 6;hole a 6 rank 0;hole b 1 rank 0;spec 1;");
        for (int i = 0; i < 128; i++) Tester.due("of one COST, " + i, Tester.ranked(y, i), i);
        Tester.due("the first that is none", Tester.ranked(y, 128), Tester.THROWS);
        Tester.due("-1", Tester.ranked(y, -1), Tester.THROWS);
        for (int far : FAR) Tester.due("ranked " + far, Tester.ranked(y, far), Tester.THROWS);
        y.pin(0, 63);
        Tester.due("OUT or not, the first", Tester.ranked(y, 0), 0);
        Tester.due("OUT or not, the last", Tester.ranked(y, 127), 127);
        Tester.due("OUT or not, none behind", Tester.ranked(y, 128), Tester.THROWS);
        SketchFiller one = Tester.told("sketch 1;hole a 1;spec 1;");
        Tester.due("first of two", Tester.ranked(one, 0), 0);
        Tester.due("second of two", Tester.ranked(one, 1), 1);
        Tester.due("no third", Tester.ranked(one, 2), Tester.THROWS);
    }

    // ---- runs

    private static void varsAreZeroAtFirst() {
        Tester.by("vars are 0 at first");
        SketchFiller x = Tester.told("sketch 4;in i 1;var a;var b;var c;var d;if i{a=15;b=15;c=15;d=15;}spec 1;");
        for (int k = 0; k < 4; k++) {
            Tester.due("set, " + k, x.ends(0, 1, k), 15);
            Tester.due("0 again, " + k, x.ends(0, 0, k), 0);
        }
        Tester.due("no fifth", x.ends(0, 0, 4), -1);
    }

    private static void stepsOfEach() {
        Tester.by("Each STATEMENT is one STEP; of a loop, a while each time round is one more; spec: no STEP");
        Tester.due("none", stepsOf("spec 1;"), 0);
        Tester.due("none, refuted", stepsOf("spec 0;"), 0);
        Tester.due("none, divided", stepsOf("spec 1/0;"), 0);
        Tester.due("=", stepsOf("v=1;spec 1;"), 1);
        Tester.due("must", stepsOf("must 1;spec 1;"), 1);
        Tester.due("must 0", stepsOf("must 0;must 1;spec 1;"), 1);
        Tester.due("if", stepsOf("if 1{}spec 1;"), 1);
        Tester.due("if 0 else", stepsOf("if 0{}else{v=1;}spec 1;"), 2);
        Tester.due("loop 1", stepsOf("loop 1{}spec 1;"), 2);
        Tester.due("loop 9", stepsOf("loop 9{}spec 1;"), 10);
        Tester.due("loop 9 of one", stepsOf("loop 9{v=1;}spec 1;"), 19);
        Tester.due("while 0", stepsOf("while 0 most 9{}spec 1;"), 1);
        Tester.due("while once", stepsOf("while v=0 most 1{v=1;}spec 1;"), 3);
        Tester.due("while too long", stepsOf("while 1 most 9{}spec 1;"), 10);
        Tester.due("let", stepsOf("let a=1{}spec 1;"), 1);
        Tester.due("divided as it began", stepsOf("v=1/0;v=1;spec 1;"), 1);
        Tester.due("while divided", stepsOf("while 1/0 most 9{}spec 1;"), 1);
        Tester.due("while divided behind one", stepsOf("while 1/(1-v) most 9{v=1;}spec 1;"), 3);
    }

    /** Statements of so many STEPS, 118 to 120. */
    private static String filled(int steps) {
        return "loop 9{loop 9{}}loop 9{}loop " + (steps - 111) + "{}";
    }

    private static void stepsOf120() {
        Tester.by("5 a 121st STEP would begin; 10: those that began");
        for (int n = 118; n <= 120; n++) Tester.due("filled " + n, stepsOf(filled(n) + "spec 1;"), n);
        Tester.due("120 stand", verdictOf(filled(120) + "spec 1;"), 0);
        Tester.due("spec is no STEP", verdictOf(filled(120) + "spec 0;"), 1);
        Tester.due("spec divides", verdictOf(filled(120) + "spec 1/0;"), 3);
        String[] next = {"v=1;", "v=1/0;", "must 1;", "must 0;", "must 1/0;", "if 0{}", "if 1/0{}", "loop 1{}", "while 0 most 1{}",
            "while 1/0 most 1{}", "let a=1{}", "let a=1/0{}"};
        int[] as120th = {0, 3, 0, 2, 3, 0, 3, 5, 0, 3, 0, 3};
        for (int i = 0; i < next.length; i++) {
            Tester.due("121st: " + next[i], verdictOf(filled(120) + next[i] + "spec 0;"), 5);
            Tester.due("steps, 121st: " + next[i], stepsOf(filled(120) + next[i] + "spec 0;"), 120);
            Tester.due("120th: " + next[i], verdictOf(filled(119) + next[i] + "spec 1;"), as120th[i]);
            Tester.due("steps, 120th: " + next[i], stepsOf(filled(119) + next[i] + "spec 1;"), 120);
        }
        Tester.due("a round is the 120th", verdictOf(filled(118) + "loop 1{}spec 1;"), 0);
        Tester.due("a round is the 121st", verdictOf(filled(118) + "loop 2{}spec 1;"), 5);
        Tester.due("within a round", verdictOf(filled(118) + "loop 1{v=1;}spec 1;"), 5);
        Tester.due("a while's round is the 120th", verdictOf(filled(118) + "while v=0 most 1{}spec 1;"), 4);
        Tester.due("a while's round is the 121st", verdictOf(filled(119) + "while 1 most 1{}spec 1;"), 5);
        Tester.due("within a while", verdictOf(filled(118) + "while v=0 most 1{v=1;}spec 1;"), 5);
        Tester.due("within an if", verdictOf(filled(119) + "if 1{v=1;}spec 1;"), 5);
        Tester.due("within an else", verdictOf(filled(119) + "if 0{}else{v=1;}spec 1;"), 5);
        Tester.due("within a let", verdictOf(filled(119) + "let a=1{a=1;}spec 1;"), 5);
        Tester.due("not gone through", verdictOf(filled(119) + "if 0{v=1;}spec 1;"), 0);
        SketchFiller x = Tester.told("sketch 4;in i 1;var v;" + filled(119) + "if i{v=1;}spec 1;");
        Tester.due("no end by 5", x.ends(0, 1, 0), -2);
        Tester.due("an end at 120", x.ends(0, 0, 0), 0);
    }

    private static void rounds() {
        Tester.by("loop: so many times");
        for (int n = 1; n <= 9; n++) {
            SketchFiller x = Tester.told("sketch 6;var v;var w;loop " + n + "{v=v+1;}loop " + n + "{loop 2{w=w+1;}}spec 1;");
            Tester.due("loop " + n, x.ends(0, 0, 0), n);
            Tester.due("loop " + n + " of two", x.ends(0, 0, 1), 2 * n);
            x.set(0, 1);
            Tester.due("loop " + n + ", UNROLL 1", x.ends(0, 0, 0), n);
        }
    }

    private static void whileTimes() {
        Tester.by("4 a while's E is not 0 behind so many times");
        for (int most = 1; most <= 9; most++) {
            SketchFiller x = Tester.told("sketch 4;in i 4;var v;while v<i most " + most + "{v=v+1;}spec 1;");
            for (int i = 0; i < 16; i++) {
                String what = "most " + most + " on " + i;
                Tester.due(what, x.verdict(0, i), i <= most ? 0 : 4);
                Tester.due("end of " + what, x.ends(0, i, 0), i <= most ? i : -2);
                Tester.due("steps of " + what, x.steps(0, i), 1 + 2 * Math.min(i, most));
            }
        }
        // Each time that it is come to it begins with all its times.
        Tester.due("a while in a loop", verdictOf("loop 3{v=0;while v<2 most 2{v=v+1;}}spec v=2;"), 0);
        Tester.due("a while in a while", verdictOf("let a=0{while a<2 most 2{v=0;while v<2 most 2{v=v+1;}a=a+1;}}spec v=2;"), 0);
        Tester.due("one in it too long", verdictOf("let a=0{while a<2 most 2{v=0;while v<3 most 2{v=v+1;}a=a+1;}}spec 1;"), 4);
        Tester.due("a loop in a while", verdictOf("while v<6 most 2{loop 3{v=v+1;}}spec v=6;"), 0);
    }

    private static void whileBehindTheLast() {
        Tester.by("while: E is worked out ahead of each time round and behind the last one");
        Tester.due("divided behind the last", verdictOf("while 1/(1-v) most 1{v=1;}spec 1;"), 3);
        Tester.due("divided ahead of the first", verdictOf("while 1/v most 1{v=1;}spec 1;"), 3);
        Tester.due("0 behind the last", verdictOf("while 1-v most 1{v=1;}spec 1;"), 0);
        Tester.due("not 0 behind the last", verdictOf("while 2-v most 1{v=1;}spec 1;"), 4);
        Tester.due("a 0 of four bits", verdictOf("while 16 most 1{must 0;}spec 1;"), 0);
        Tester.due("any that is not 0", verdictOf("while 8 most 1{must 0;}spec 1;"), 2);
        Tester.due("too long is ahead of spec", verdictOf("while 1 most 1{}spec 1/0;"), 4);
    }

    private static void ifNotZero() {
        Tester.by("if: not 0 the first { }, else the second one, if there is one");
        SketchFiller x = Tester.told("sketch 4;in i 4;var v;var w;if i{v=1;}else{v=2;}if i{w=1;}spec 1;");
        for (int i = 0; i < 16; i++) {
            Tester.due("if on " + i, x.ends(0, i, 0), i == 0 ? 2 : 1);
            Tester.due("without else on " + i, x.ends(0, i, 1), i == 0 ? 0 : 1);
        }
        Tester.due("16 is 0", verdictOf("if 16{must 0;}spec 1;"), 0);
    }

    private static void lets() {
        Tester.by("let: the NAME has the value within { }");
        Tester.due("as it was worked out", comesTo(4, "3;let a=v{v=5;v=a;}v=v"), 3);
        Tester.due("may be set", comesTo(4, "3;let a=v{a=a+1;v=a;}v=v"), 4);
        Tester.due("anew each time", comesTo(4, "0;loop 3{let a=v{a=a+1;v=a;}}v=v"), 3);
        Tester.due("within one another", comesTo(4, "0;let a=1{let b=2{let c=4{v=a+b+c;a=8;}}v=v+a;}v=v"), 15);
        SketchFiller all = Tester.told("sketch 4;var a;var b;var c;var d;a=1;b=2;c=3;d=4;"
                + "let e=5{let f=6{let g=7{a=a+e;b=b+f;c=c+g;e=f+g;}}d=d+e;}spec 1;");
        int[] want = {6, 8, 10, (4 + 13) & 15};
        for (int k = 0; k < 4; k++) Tester.due("three lets beside var " + k, all.ends(0, 0, k), want[k]);
        Tester.due("beside one another", comesTo(4, "0;let a=1{v=a;}let b=2{v=v+b;}let a=4{v=v+a;}v=v"), 7);
    }

    private static void whatComesFirst() {
        Tester.by("VERDICT, what comes first");
        Tester.due("nothing", verdictOf("spec 1;"), 0);
        Tester.due("any that is not 0", verdictOf("must 8;spec 8;"), 0);
        Tester.due("spec 0", verdictOf("spec 0;"), 1);
        Tester.due("spec 16", verdictOf("spec 16;"), 1);
        String[] bad = {"must 0;", "v=1/0;", "while 1 most 1{}", filled(120) + "must 1;"};
        int[] verdict = {2, 3, 4, 5};
        for (int i = 0; i < 4; i++) {
            Tester.due(bad[i] + " ahead of spec 0", verdictOf(bad[i] + "spec 0;"), verdict[i]);
            Tester.due(bad[i] + " ahead of spec 1/0", verdictOf(bad[i] + "spec 1/0;"), verdict[i]);
            for (int j = 0; j < 3; j++) Tester.due(bad[i] + " ahead of " + bad[j], verdictOf(bad[i] + bad[j] + "spec 1;"), verdict[i]);
            for (int j = 0; j < 3; j++) Tester.due(bad[j] + " ahead of " + bad[i], verdictOf(bad[j] + bad[i] + "spec 1;"), verdict[j]);
        }
        Tester.due("must divides", verdictOf("must 0/0;spec 1;"), 3);
        Tester.due("must 0 in a while", verdictOf("while 1 most 1{must 0;}spec 1;"), 2);
    }

    private static void unroll() {
        Tester.by("UNROLL: 0 (at first), or 1 to 9: so many times at most each while goes, whatever is told behind most");
        for (int most : new int[] {1, 4, 9}) {
            String text = "sketch 4;in i 4;var v;var w;while v<i most " + most + "{v=v+1;}w=5;while w<9 most " + most + "{w=9;}spec 1;";
            Tester.due("0 at first", Tester.told(text).state(3), 0);
            for (int u = 0; u <= 9; u++) {
                SketchFiller x = Tester.told(text);
                Tester.due("verdict ahead of UNROLL", x.verdict(0, most + 1), 4);
                Tester.due("UNROLL " + u, x.set(0, u), 0);
                Tester.due("it is " + u, x.state(3), u);
                int times = u == 0 ? most : u;
                Tester.due("the last that stands, " + u, x.verdict(0, times), 0);
                Tester.due("the first that does not, " + u, x.verdict(0, times + 1), 4);
                Tester.due("the end, " + u, x.ends(0, times, 0), times);
                Tester.due("the steps, " + u, x.steps(0, 15), 1 + 2 * times);
                Tester.due("by 4, " + u, x.by(0, 4), 15 - times);
                Tester.due("the refuter, " + u, x.refuter(0), times + 1);
            }
        }
    }

    // ---- promises 4 to 12, what is none such

    private static void has() {
        Tester.by("4: what 0 to 6; NONE: others, no SKETCH");
        SketchFiller x = Tester.told("sketch 5;in x 3;in y 4;hole a 2;hole b 1;hole c 1;var v;v=1;if v{v=2;}must 1;spec 1;");
        int[] want = {5, 2, 3, 1, 4, 7, 4};
        for (int what = 0; what < 7; what++) Tester.due("has " + what, x.has(what), want[what]);
        Tester.due("has 7", x.has(7), -1);
        Tester.due("has -1", x.has(-1), -1);
        for (int far : FAR) Tester.due("has " + far, x.has(far), -1);
        for (int what = -1; what < 8; what++) Tester.due("no SKETCH, " + what, new SketchFiller().has(what), -1);
        SketchFiller least = Tester.told("sketch 1;spec 1;");
        int[] none = {1, 0, 0, 0, 0, 0, 0};
        for (int what = 0; what < 7; what++) Tester.due("least, " + what, least.has(what), none[what]);
        SketchFiller most = Tester.told("sketch 16;in a 5;in b 1;in c 1;hole d 3;hole e 1;hole f 1;hole g 1;hole h 1;"
                + "var i;var j;var k;var l;" + "must 1;".repeat(24) + "spec 1;");
        int[] all = {16, 3, 5, 4, 24, 7, 7};
        for (int what = 0; what < 7; what++) Tester.due("most, " + what, most.has(what), all[what]);
    }

    private static void hole() {
        Tester.by("5: what 0: bits, 1: RANK, 2: the value to which it is PINNED (NONE: to none); NONE: others, none such");
        SketchFiller x = Tester.told("sketch 6;hole a 1 rank 0;hole b 2 rank 9;hole c 1;hole d 1;hole e 2;spec 1;");
        int[] bits = {1, 2, 1, 1, 2};
        int[] ranks = {0, 9, 1, 1, 1};
        for (int k = 0; k < 5; k++) {
            Tester.due("bits of " + k, x.hole(k, 0), bits[k]);
            Tester.due("rank of " + k, x.hole(k, 1), ranks[k]);
            Tester.due("pin of " + k, x.hole(k, 2), -1);
            Tester.due("3 of " + k, x.hole(k, 3), -1);
            Tester.due("-1 of " + k, x.hole(k, -1), -1);
        }
        for (int what = 0; what < 3; what++) {
            Tester.due("hole 5, " + what, x.hole(5, what), -1);
            Tester.due("hole -1, " + what, x.hole(-1, what), -1);
            for (int far : FAR) Tester.due("hole " + far + ", " + what, x.hole(far, what), -1);
            Tester.due("no SKETCH, " + what, new SketchFiller().hole(0, what), -1);
        }
        for (int far : FAR) Tester.due("hole 0, " + far, x.hole(0, far), -1);
        for (int value = 0; value < 4; value++) {
            x.pin(4, value);
            Tester.due("pinned to " + value, x.hole(4, 2), value);
            Tester.due("the one beside it", x.hole(3, 2), -1);
        }
        x.pin(4, -1);
        Tester.due("pinned to none", x.hole(4, 2), -1);
    }

    private static void endsOfEach() {
        Tester.by("11: VERDICT 0 or 1; NONE: others, none such; -2: VERDICT 2 to 5");
        SketchFiller x = Tester.told("sketch 4;in i 3;var v;var w;v=9;w=i;if i=2{must 0;}if i=3{v=1/0;}if i=4{while 1 most 1{}}"
                + "if i=5{" + filled(120) + "}spec (i=1)=0;");
        int[] verdict = {0, 1, 2, 3, 4, 5, 0, 0};
        for (int i = 0; i < 8; i++) {
            Tester.due("verdict on " + i, x.verdict(0, i), verdict[i]);
            Tester.due("v on " + i, x.ends(0, i, 0), verdict[i] < 2 ? 9 : -2);
            Tester.due("w on " + i, x.ends(0, i, 1), verdict[i] < 2 ? i : -2);
            Tester.due("no third on " + i, x.ends(0, i, 2), -1);
            Tester.due("var -1 on " + i, x.ends(0, i, -1), -1);
        }
        for (int far : FAR) Tester.due("var " + far, x.ends(0, 0, far), -1);
        Tester.due("without vars", Tester.told("sketch 4;spec 1;").ends(0, 0, 0), -1);
        Tester.due("spec divides", Tester.told("sketch 4;var v;spec 1/0;").ends(0, 0, 0), -2);
    }

    private static void refuters() {
        Tester.by("12: The first INPUT (by number) by which a GUESS is REFUTED; NONE: by none; -2: no such GUESS");
        SketchFiller x = Tester.told("sketch 6;in x 6;hole h 6;hole g 1;spec h=0&g=0|x<h;");
        Tester.due("by none", x.refuter(0), -1);
        Tester.due("by the first", x.refuter(1), 0);
        for (int h = 1; h < 64; h++) Tester.due("by " + h, x.refuter(2 * h), h);
        Tester.due("the last GUESS, by the last INPUT", x.refuter(127), 63);
        Tester.due("128", x.refuter(128), -2);
        Tester.due("-1", x.refuter(-1), -2);
        for (int far : FAR) Tester.due("refuter " + far, x.refuter(far), -2);
        Tester.due("no SKETCH", new SketchFiller().refuter(0), -2);
        x.pin(0, 0);
        x.keep(5);
        Tester.due("OUT or not, kept or not", x.refuter(10), 5);
    }

    /** What a larger SKETCH left behind is none of the smaller one that comes behind it. */
    private static void smallerBehindLarger() {
        Tester.by("3: The first n bytes of THE TAPE are the SKETCH from now on");
        SketchFiller x = Tester.told("sketch 6;in x 6;in y 1;hole h 6;hole g 1;var v;spec 0;");
        Tester.due("all REFUTED", x.many(1), 0);
        Tester.due("smaller", Tester.tell(x, "sketch 6;in x 2;hole h 2;spec 1;"), 0);
        Tester.due("all stand", x.many(1), 4);
        Tester.due("verdict 3 3", x.verdict(3, 3), 0);
        Tester.due("verdict 4 0", x.verdict(4, 0), -1);
        Tester.due("verdict 0 4", x.verdict(0, 4), -1);
        Tester.due("by 4", x.by(4, 0), -1);
        Tester.due("by 3", x.by(3, 0), 4);
        Tester.due("cost 4", x.cost(4), -1);
        Tester.due("ranked 4", Tester.ranked(x, 4), Tester.THROWS);
        Tester.due("refuter 4", x.refuter(4), -2);
        Tester.due("keep 4", x.keep(4), -1);
        Tester.due("refutes 4", x.refutes(4), -1);
        Tester.due("alike 0 4", x.alike(0, 4), false);
        Tester.due("alike 4 0", x.alike(4, 0), false);
        Tester.due("alike 4 4", x.alike(4, 4), false);
        Tester.due("shown 4", x.shown(4, -1), -1);
        Tester.due("free 4", x.free(4, 0), -1);
        Tester.due("no var", x.ends(0, 0, 0), -1);
        Tester.due("no second hole", x.hole(1, 0), -1);
        Tester.due("no pin of it", x.pin(1, 0), false);
        Tester.due("larger again", Tester.tell(x, "sketch 6;in x 6;in y 1;hole h 6;hole g 1;spec x|y;"), 0);
        Tester.due("none TRUE", x.many(1), 0);
        Tester.due("by 127", x.by(127, 0), 127);
    }

    private static void noSuchRun() {
        Tester.by("9, 10, 11: NONE: no such GUESS, INPUT");
        SketchFiller x = Tester.told("sketch 3;in x 3;hole h 2;var v;v=1;spec 1;");
        Tester.due("the last of both", x.verdict(3, 7), 0);
        Tester.due("its steps", x.steps(3, 7), 1);
        Tester.due("its end", x.ends(3, 7, 0), 1);
        SketchFiller own = Tester.told("sketch 6;in x 2;hole h 2;var v;v=h*4+x;if h=3{v=v;}if x{v=v;v=v;}spec 1;");
        for (int run = 0; run < 16; run++) {
            Tester.due("its own end, " + run, own.ends(run >> 2, run & 3, 0), run);
            Tester.due("its own steps, " + run, own.steps(run >> 2, run & 3), 3 + (run >> 2 == 3 ? 1 : 0) + ((run & 3) > 0 ? 2 : 0));
        }
        int[][] none = {{4, 0}, {0, 8}, {-1, 0}, {0, -1}, {-1, -1}, {4, 8}, {MIN, 0}, {0, MIN}, {MAX, 0}, {0, MAX}, {1 << 29, 0}, {1 << 30, 7}};
        for (int[] run : none) {
            String what = run[0] + " on " + run[1];
            Tester.due("verdict of " + what, x.verdict(run[0], run[1]), -1);
            Tester.due("steps of " + what, x.steps(run[0], run[1]), -1);
            Tester.due("ends of " + what, x.ends(run[0], run[1], 0), -1);
            Tester.due("no SKETCH, " + what, new SketchFiller().verdict(run[0], run[1]), -1);
        }
    }
}
